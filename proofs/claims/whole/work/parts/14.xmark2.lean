/-- what a cell of X asks of closed sets -/
def ex_p (C : Nat) (fil : Nat → Prop) (anc : Nat → Int32) (F : Nat → Int32 → Option Nat) (o c n : Int32) (S : Nat → Nat → Prop) : Prop :=
  ¬ c = -1 → S 0 (hq_t c) ∧ (o = 1 → S 1 (hq_t c)) ∧ (o = 3 → ∀ f, F (hq_t c) n = some f → S 2 f ∧ (fil f → S 3 f)) ∧
    (o = 2 → (∀ f, F (hq_t c) n = some f → S 2 f) ∧ ∀ e, e < C → S 1 e → bt (anc e) (hq_t c) = true → ∀ g, F e n = some g → S 2 g ∧ (fil g → S 3 g))
def ew_p (C : Nat) (fil : Nat → Prop) (anc : Nat → Int32) (F : Nat → Int32 → Option Nat) (xlen xop xcl xnu : Nat → Int32) (w m : Nat) (S : Nat → Nat → Prop) : Prop :=
  ∀ k, k < hq_t (xlen (30 * w + m)) → ex_p C fil anc F (xop (24 * (30 * w + m) + k)) (xcl (24 * (30 * w + m) + k)) (xnu (24 * (30 * w + m) + k)) S
section
variable {x_classCount x_methodCount x_ruleCount x_isBuilt x_faultPlace x_namedClasses x_madeClasses x_namedMethods x_liveMethods x_depth x_stepCount x_outCount x_traceCount : Int32} {x_isInterfaceClass x_chainOf x_interfacesOf x_ancestorsOf x_homeOf x_formOf x_nameOf x_lengthOf x_opOf x_classOf x_numberOf x_sourceMethod x_sourceLine x_callLine x_ruleKind x_ruleClasses x_ruleNames x_newNumber x_familyOf x_sightOf x_frameRow x_frameLine x_frameHeld x_outInts x_traceMethod x_traceLine : Nat → Int32} {y_parent y_many y_isAbstract y_name y_length y_op y_first y_second : Nat → Int32} {C M R : Nat} {E : Nat → (Nat → Nat → Prop) → Prop} {a b c d : Int32}
theorem xr_o (T : tp_p C M R x_isInterfaceClass x_ancestorsOf x_interfacesOf x_chainOf y_parent y_many x_homeOf x_ruleKind x_ruleClasses x_ruleNames x_formOf x_nameOf x_lengthOf y_isAbstract y_name y_length x_opOf x_classOf x_numberOf x_sourceMethod x_sourceLine x_callLine y_op y_first y_second) {post : SX → Prop} {o : Option Nat} (hm : ∀ m, o = some m → m < M) (h : mi_ok C M R x_ancestorsOf x_homeOf y_name x_ruleKind x_ruleClasses x_ruleNames (fun m => y_isAbstract m = 0) E a b c d) (J : ∀ m, o = some m → ∀ S, cl_ok C M R x_ancestorsOf x_homeOf y_name x_ruleKind x_ruleClasses x_ruleNames (fun m => y_isAbstract m = 0) E S → S 2 m ∧ (y_isAbstract m = 0 → S 3 m))
    (K : ∀ a' c' d', mi_ok C M R x_ancestorsOf x_homeOf y_name x_ruleKind x_ruleClasses x_ruleNames (fun m => y_isAbstract m = 0) E a' b c' d' → mk_gr a b c d a' b c' d' → (∀ m, o = some m → bt c' m = true ∧ (y_isAbstract m = 0 → bt d' m = true)) → post (x_classCount, x_methodCount, x_ruleCount, x_isBuilt, x_faultPlace, a', b, c', d', x_depth, x_stepCount, x_outCount, x_traceCount, x_isInterfaceClass, x_chainOf, x_interfacesOf, x_ancestorsOf, x_homeOf, x_formOf, x_nameOf, x_lengthOf, x_opOf, x_classOf, x_numberOf, x_sourceMethod, x_sourceLine, x_callLine, x_ruleKind, x_ruleClasses, x_ruleNames, x_newNumber, x_familyOf, x_sightOf, x_frameRow, x_frameLine, x_frameHeld, x_outInts, x_traceMethod, x_traceLine)) :
    wpX_reachMethod post (x_classCount, x_methodCount, x_ruleCount, x_isBuilt, x_faultPlace, a, b, c, d, x_depth, x_stepCount, x_outCount, x_traceCount, x_isInterfaceClass, x_chainOf, x_interfacesOf, x_ancestorsOf, x_homeOf, x_formOf, x_nameOf, x_lengthOf, x_opOf, x_classOf, x_numberOf, x_sourceMethod, x_sourceLine, x_callLine, x_ruleKind, x_ruleClasses, x_ruleNames, x_newNumber, x_familyOf, x_sightOf, x_frameRow, x_frameLine, x_frameHeld, x_outInts, x_traceMethod, x_traceLine) (oI o) := by
  cases o with
  | none =>
    unfold wpX_reachMethod
    dsimp only
    unfold wpX_nameMethod
    dsimp only
    exact br_t rfl (br_t rfl (K a c d h (mk_gr0 a b c d) (fun m z => absurd z (by simp))))
  | some m =>
    exact xr_i T (hm m rfl) h (fun S hS _ => J m rfl S hS) (fun a' c' d' m1 m2 m3 m4 => K a' c' d' m1 m2 (fun k z => by
      have : m = k := by simpa using z
      subst this; exact ⟨m3, m4⟩))
theorem xq_o (T : tp_p C M R x_isInterfaceClass x_ancestorsOf x_interfacesOf x_chainOf y_parent y_many x_homeOf x_ruleKind x_ruleClasses x_ruleNames x_formOf x_nameOf x_lengthOf y_isAbstract y_name y_length x_opOf x_classOf x_numberOf x_sourceMethod x_sourceLine x_callLine y_op y_first y_second) {post : SX → Prop} {o : Option Nat} (hm : ∀ m, o = some m → m < M) (h : mi_ok C M R x_ancestorsOf x_homeOf y_name x_ruleKind x_ruleClasses x_ruleNames (fun m => y_isAbstract m = 0) E a b c d) (J : ∀ m, o = some m → ∀ S, cl_ok C M R x_ancestorsOf x_homeOf y_name x_ruleKind x_ruleClasses x_ruleNames (fun m => y_isAbstract m = 0) E S → S 2 m)
    (K : ∀ a' c', mi_ok C M R x_ancestorsOf x_homeOf y_name x_ruleKind x_ruleClasses x_ruleNames (fun m => y_isAbstract m = 0) E a' b c' d → mk_gr a b c d a' b c' d → (∀ m, o = some m → bt c' m = true) → post (x_classCount, x_methodCount, x_ruleCount, x_isBuilt, x_faultPlace, a', b, c', d, x_depth, x_stepCount, x_outCount, x_traceCount, x_isInterfaceClass, x_chainOf, x_interfacesOf, x_ancestorsOf, x_homeOf, x_formOf, x_nameOf, x_lengthOf, x_opOf, x_classOf, x_numberOf, x_sourceMethod, x_sourceLine, x_callLine, x_ruleKind, x_ruleClasses, x_ruleNames, x_newNumber, x_familyOf, x_sightOf, x_frameRow, x_frameLine, x_frameHeld, x_outInts, x_traceMethod, x_traceLine)) :
    wpX_nameMethod post (x_classCount, x_methodCount, x_ruleCount, x_isBuilt, x_faultPlace, a, b, c, d, x_depth, x_stepCount, x_outCount, x_traceCount, x_isInterfaceClass, x_chainOf, x_interfacesOf, x_ancestorsOf, x_homeOf, x_formOf, x_nameOf, x_lengthOf, x_opOf, x_classOf, x_numberOf, x_sourceMethod, x_sourceLine, x_callLine, x_ruleKind, x_ruleClasses, x_ruleNames, x_newNumber, x_familyOf, x_sightOf, x_frameRow, x_frameLine, x_frameHeld, x_outInts, x_traceMethod, x_traceLine) (oI o) := by
  cases o with
  | none =>
    unfold wpX_nameMethod
    dsimp only
    exact br_t rfl (K a c h (mk_gr0 a b c d) (fun m z => absurd z (by simp)))
  | some m =>
    exact xq_i T (hm m rfl) h (fun S hS _ => J m rfl S hS) (fun a' c' m1 m2 m3 => K a' c' m1 m2 (fun k z => by
      have : m = k := by simpa using z
      subst this; exact m3))
theorem fo_M (T : tp_p C M R x_isInterfaceClass x_ancestorsOf x_interfacesOf x_chainOf y_parent y_many x_homeOf x_ruleKind x_ruleClasses x_ruleNames x_formOf x_nameOf x_lengthOf y_isAbstract y_name y_length x_opOf x_classOf x_numberOf x_sourceMethod x_sourceLine x_callLine y_op y_first y_second) {k : Nat} {n : Int32} (hk : k < C) : ∀ m, fo_v M x_ancestorsOf x_chainOf x_homeOf y_name k n = some m → m < M := fun m e => (fd_s T.1 hk e).1
theorem xc_l (T : tp_p C M R x_isInterfaceClass x_ancestorsOf x_interfacesOf x_chainOf y_parent y_many x_homeOf x_ruleKind x_ruleClasses x_ruleNames x_formOf x_nameOf x_lengthOf y_isAbstract y_name y_length x_opOf x_classOf x_numberOf x_sourceMethod x_sourceLine x_callLine y_op y_first y_second) (hC : x_classCount = nI C) (hM : x_methodCount = nI M) {post : SX → Prop} {k : Nat} {n : Int32} (hk : k < C) {a0 c0 d0 : Int32}
    (J : ∀ S, cl_ok C M R x_ancestorsOf x_homeOf y_name x_ruleKind x_ruleClasses x_ruleNames (fun m => y_isAbstract m = 0) E S → ∀ e, e < C → S 1 e → bt (x_ancestorsOf e) k = true → ∀ g, fo_v M x_ancestorsOf x_chainOf x_homeOf y_name e n = some g → S 2 g ∧ (y_isAbstract g = 0 → S 3 g))
    (K : ∀ a c d, mi_ok C M R x_ancestorsOf x_homeOf y_name x_ruleKind x_ruleClasses x_ruleNames (fun m => y_isAbstract m = 0) E a b c d → mk_gr a0 b c0 d0 a b c d → (∀ e, e < C → bt b e = true → bt (x_ancestorsOf e) k = true → ∀ g, fo_v M x_ancestorsOf x_chainOf x_homeOf y_name e n = some g → bt c g = true ∧ (y_isAbstract g = 0 → bt d g = true)) → post (x_classCount, x_methodCount, x_ruleCount, x_isBuilt, x_faultPlace, a, b, c, d, x_depth, x_stepCount, x_outCount, x_traceCount, x_isInterfaceClass, x_chainOf, x_interfacesOf, x_ancestorsOf, x_homeOf, x_formOf, x_nameOf, x_lengthOf, x_opOf, x_classOf, x_numberOf, x_sourceMethod, x_sourceLine, x_callLine, x_ruleKind, x_ruleClasses, x_ruleNames, x_newNumber, x_familyOf, x_sightOf, x_frameRow, x_frameLine, x_frameHeld, x_outInts, x_traceMethod, x_traceLine)) :
    ∀ q i f a c d, i + q = C → q < f → mi_ok C M R x_ancestorsOf x_homeOf y_name x_ruleKind x_ruleClasses x_ruleNames (fun m => y_isAbstract m = 0) E a b c d → mk_gr a0 b c0 d0 a b c d →
      (∀ e, e < i → bt b e = true → bt (x_ancestorsOf e) k = true → ∀ g, fo_v M x_ancestorsOf x_chainOf x_homeOf y_name e n = some g → bt c g = true ∧ (y_isAbstract g = 0 → bt d g = true)) →
      wX_markCall_16 post (nI k) n f (nI i) x_classCount x_methodCount x_ruleCount x_isBuilt x_faultPlace a b c d x_depth x_stepCount x_outCount x_traceCount x_isInterfaceClass x_chainOf x_interfacesOf x_ancestorsOf x_homeOf x_formOf x_nameOf x_lengthOf x_opOf x_classOf x_numberOf x_sourceMethod x_sourceLine x_callLine x_ruleKind x_ruleClasses x_ruleNames x_newNumber x_familyOf x_sightOf x_frameRow x_frameLine x_frameHeld x_outInts x_traceMethod x_traceLine := by
  have h10 := T.1.1
  intro q
  induction q with
  | zero =>
    intro i f a c d e hf h g z
    obtain ⟨f, rfl⟩ : ∃ q, f = q + 1 := ⟨f - 1, by omega⟩
    have e : i = C := by omega
    subst e
    rw [wX_markCall_16]
    exact br_t (by rw [hC]; exact nI_le (Nat.le_refl _) (by omega)) (K a c d h g z)
  | succ q ih =>
    intro i f a c d e hf h g z
    obtain ⟨f, rfl⟩ : ∃ q, f = q + 1 := ⟨f - 1, by omega⟩
    have nx : ¬ (bt b i = true ∧ bt (x_ancestorsOf i) k = true) → wX_markCall_16 post (nI k) n f (nI (i + 1)) x_classCount x_methodCount x_ruleCount x_isBuilt x_faultPlace a b c d x_depth x_stepCount x_outCount x_traceCount x_isInterfaceClass x_chainOf x_interfacesOf x_ancestorsOf x_homeOf x_formOf x_nameOf x_lengthOf x_opOf x_classOf x_numberOf x_sourceMethod x_sourceLine x_callLine x_ruleKind x_ruleClasses x_ruleNames x_newNumber x_familyOf x_sightOf x_frameRow x_frameLine x_frameHeld x_outInts x_traceMethod x_traceLine := fun y =>
      ih (i + 1) f a c d (by omega) (by omega) h g (fun e he x w => by
        rcases Nat.lt_or_ge e i with v | v
        · exact z e v x w
        · have : e = i := by omega
          subst this; exact absurd ⟨x, w⟩ y)
    rw [wX_markCall_16]
    refine br_f (by rw [hC]; exact nI_ge (by omega) (by omega)) (xh_b (by omega) (fun y => ?_) (fun y => nm_r (nI_1 i) (nx (fun q => y q.1))))
    refine xd_b (by omega) (by omega) (fun w => ?_) (fun w => nm_r (nI_1 i) (nx (fun q => w q.2)))
    refine xo_v T hM (by omega) ?_
    refine xr_o T (fo_M T (by omega)) h (fun m em S hS => J S hS i (by omega) (h.1 S hS 1 i y) w m em) (fun a' c' d' m1 m2 m3 => ?_)
    refine nm_r (nI_1 i) (ih (i + 1) f a' c' d' (by omega) (by omega) m1 (mk_grt g m2) (fun e he x v => ?_))
    rcases Nat.lt_or_ge e i with u | u
    · intro m em
      exact ⟨m2.2.2.1 m (z e u x v m em).1, fun t => m2.2.2.2 m ((z e u x v m em).2 t)⟩
    · have : e = i := by omega
      subst this; exact m3
theorem xi_v (T : tp_p C M R x_isInterfaceClass x_ancestorsOf x_interfacesOf x_chainOf y_parent y_many x_homeOf x_ruleKind x_ruleClasses x_ruleNames x_formOf x_nameOf x_lengthOf y_isAbstract y_name y_length x_opOf x_classOf x_numberOf x_sourceMethod x_sourceLine x_callLine y_op y_first y_second) (hC : x_classCount = nI C) (hM : x_methodCount = nI M) {post : SX → Prop} {j : Nat} (hj : j < 1440) (hcl : x_classOf j = -1 ∨ ∃ k, k < C ∧ x_classOf j = nI k) (h : mi_ok C M R x_ancestorsOf x_homeOf y_name x_ruleKind x_ruleClasses x_ruleNames (fun m => y_isAbstract m = 0) E a b c d)
    (J : ∀ S, cl_ok C M R x_ancestorsOf x_homeOf y_name x_ruleKind x_ruleClasses x_ruleNames (fun m => y_isAbstract m = 0) E S → ex_p C (fun m => y_isAbstract m = 0) x_ancestorsOf (fo_v M x_ancestorsOf x_chainOf x_homeOf y_name) (x_opOf j) (x_classOf j) (x_numberOf j) S)
    (K : ∀ a' b' c' d', mi_ok C M R x_ancestorsOf x_homeOf y_name x_ruleKind x_ruleClasses x_ruleNames (fun m => y_isAbstract m = 0) E a' b' c' d' → mk_gr a b c d a' b' c' d' → ex_p C (fun m => y_isAbstract m = 0) x_ancestorsOf (fo_v M x_ancestorsOf x_chainOf x_homeOf y_name) (x_opOf j) (x_classOf j) (x_numberOf j) (mk_s a' b' c' d') → post (x_classCount, x_methodCount, x_ruleCount, x_isBuilt, x_faultPlace, a', b', c', d', x_depth, x_stepCount, x_outCount, x_traceCount, x_isInterfaceClass, x_chainOf, x_interfacesOf, x_ancestorsOf, x_homeOf, x_formOf, x_nameOf, x_lengthOf, x_opOf, x_classOf, x_numberOf, x_sourceMethod, x_sourceLine, x_callLine, x_ruleKind, x_ruleClasses, x_ruleNames, x_newNumber, x_familyOf, x_sightOf, x_frameRow, x_frameLine, x_frameHeld, x_outInts, x_traceMethod, x_traceLine)) :
    wpX_markInstruction post (x_classCount, x_methodCount, x_ruleCount, x_isBuilt, x_faultPlace, a, b, c, d, x_depth, x_stepCount, x_outCount, x_traceCount, x_isInterfaceClass, x_chainOf, x_interfacesOf, x_ancestorsOf, x_homeOf, x_formOf, x_nameOf, x_lengthOf, x_opOf, x_classOf, x_numberOf, x_sourceMethod, x_sourceLine, x_callLine, x_ruleKind, x_ruleClasses, x_ruleNames, x_newNumber, x_familyOf, x_sightOf, x_frameRow, x_frameLine, x_frameHeld, x_outInts, x_traceMethod, x_traceLine) (nI j) := by
  have h10 := T.1.1
  unfold wpX_markInstruction
  dsimp only
  rw [nI_c (by omega)]
  refine ⟨vp_in_nI hj (by decide), nm_e ?_⟩
  rcases hcl with e | ⟨k, hk, e⟩
  · exact br_t e (K a b c d h (mk_gr0 a b c d) (fun z => absurd e z))
  · rw [e] at J K ⊢
    have hke : hq_t (nI k) = k := hq_e (by omega)
    have nk : ¬ nI k = -1 := oI_n (by omega)
    obtain ⟨m1, m2, m3⟩ := mi_N T.1 h hk (fun S hS _ => by have := (J S hS nk).1; rw [hke] at this; exact this)
    refine br_f nk ⟨vp_in_nI (by omega) (by decide), ?_⟩
    rw [nI_c (by omega)]
    refine nm_e ⟨vp_in_nI hj (by decide), nm_e ?_⟩
    have oth : ∀ a' b' c' d', mi_ok C M R x_ancestorsOf x_homeOf y_name x_ruleKind x_ruleClasses x_ruleNames (fun m => y_isAbstract m = 0) E a' b' c' d' → mk_gr (a ||| x_ancestorsOf k) b c d a' b' c' d' → (x_opOf j = 1 → bt b' k = true) →
        (x_opOf j = 3 → ∀ f, fo_v M x_ancestorsOf x_chainOf x_homeOf y_name k (x_numberOf j) = some f → bt c' f = true ∧ (y_isAbstract f = 0 → bt d' f = true)) →
        (x_opOf j = 2 → (∀ f, fo_v M x_ancestorsOf x_chainOf x_homeOf y_name k (x_numberOf j) = some f → bt c' f = true) ∧ ∀ e, e < C → bt b' e = true → bt (x_ancestorsOf e) k = true → ∀ g, fo_v M x_ancestorsOf x_chainOf x_homeOf y_name e (x_numberOf j) = some g → bt c' g = true ∧ (y_isAbstract g = 0 → bt d' g = true)) →
        post (x_classCount, x_methodCount, x_ruleCount, x_isBuilt, x_faultPlace, a', b', c', d', x_depth, x_stepCount, x_outCount, x_traceCount, x_isInterfaceClass, x_chainOf, x_interfacesOf, x_ancestorsOf, x_homeOf, x_formOf, x_nameOf, x_lengthOf, x_opOf, x_classOf, x_numberOf, x_sourceMethod, x_sourceLine, x_callLine, x_ruleKind, x_ruleClasses, x_ruleNames, x_newNumber, x_familyOf, x_sightOf, x_frameRow, x_frameLine, x_frameHeld, x_outInts, x_traceMethod, x_traceLine) := fun a' b' c' d' p1 p2 p3 p4 p5 => K a' b' c' d' p1 (mk_grt m2 p2) (fun _ => by rw [hke]; exact ⟨p2.1 k m3, p3, p4, p5⟩)
    refine br_c (fun z => ?_) (fun z0 => br_c (fun z => ?_) (fun z3 => br_c (fun z => ?_) (fun z1 => br_c (fun z => ?_) (fun z2 => br_c (fun z => ?_) (fun _ => trivial)))))
    · exact oth _ _ _ _ m1 (mk_gr0 _ _ _ _) (fun y => by rw [y] at z; exact absurd z (by decide)) (fun y => by rw [y] at z; exact absurd z (by decide)) (fun y => by rw [y] at z; exact absurd z (by decide))
    · exact oth _ _ _ _ m1 (mk_gr0 _ _ _ _) (fun y => by rw [y] at z; exact absurd z (by decide)) (fun y => by rw [y] at z; exact absurd z (by decide)) (fun y => by rw [y] at z; exact absurd z (by decide))
    · obtain ⟨n1, n2, n3⟩ := mi_D h10 m1 hk (fun S hS _ => by have := (J S hS nk).2.1 z; rw [hke] at this; exact this)
      exact nm_e (oth _ _ _ _ n1 n2 (fun _ => n3) (fun y => by rw [y] at z; exact absurd z (by decide)) (fun y => by rw [y] at z; exact absurd z (by decide)))
    · refine ⟨vp_in_nI hj (by decide), ?_⟩
      unfold wpX_markCall
      dsimp only
      have J2 : ∀ S, cl_ok C M R x_ancestorsOf x_homeOf y_name x_ruleKind x_ruleClasses x_ruleNames (fun m => y_isAbstract m = 0) E S → (∀ f, fo_v M x_ancestorsOf x_chainOf x_homeOf y_name k (x_numberOf j) = some f → S 2 f) ∧ ∀ e, e < C → S 1 e → bt (x_ancestorsOf e) k = true → ∀ g, fo_v M x_ancestorsOf x_chainOf x_homeOf y_name e (x_numberOf j) = some g → S 2 g ∧ (y_isAbstract g = 0 → S 3 g) := fun S hS => by
        have := (J S hS nk).2.2.2 z; rw [hke] at this; exact this
      refine xo_v T hM hk ?_
      refine xq_o T (fo_M T hk) m1 (fun m em S hS => (J2 S hS).1 m em) (fun a' c' p1 p2 p3 => ?_)
      refine ⟨C + 1, xc_l T hC hM hk (fun S hS => (J2 S hS).2) (fun a'' c'' d'' r1 r2 r3 => ?_) C 0 (C + 1) a' c' d (by omega) (by omega) p1 (mk_gr0 _ _ _ _) (fun e he => by omega)⟩
      exact oth _ _ _ _ r1 (mk_grt p2 r2) (fun y => by rw [y] at z; exact absurd z (by decide)) (fun y => by rw [y] at z; exact absurd z (by decide)) (fun _ => ⟨fun f ef => r2.2.2.1 f (p3 f ef), r3⟩)
    · refine ⟨vp_in_nI hj (by decide), ?_⟩
      refine xo_v T hM hk ?_
      refine xr_o T (fo_M T hk) m1 (fun m em S hS => by have := (J S hS nk).2.2.1 z; rw [hke] at this; exact this m em) (fun a' c' d' p1 p2 p3 => ?_)
      exact oth _ _ _ _ p1 p2 (fun y => by rw [y] at z; exact absurd z (by decide)) (fun _ => p3) (fun y => by rw [y] at z; exact absurd z (by decide))
end
