/-! ===== X's marking ===== -/
section
variable {x_classCount x_methodCount x_ruleCount x_isBuilt x_faultPlace x_namedClasses x_madeClasses x_namedMethods x_liveMethods x_depth x_stepCount x_outCount x_traceCount : Int32} {x_isInterfaceClass x_chainOf x_interfacesOf x_ancestorsOf x_homeOf x_formOf x_nameOf x_lengthOf x_opOf x_classOf x_numberOf x_sourceMethod x_sourceLine x_callLine x_ruleKind x_ruleClasses x_ruleNames x_newNumber x_familyOf x_sightOf x_frameRow x_frameLine x_frameHeld x_outInts x_traceMethod x_traceLine : Nat → Int32} {y_parent y_many y_isAbstract y_name y_length y_op y_first y_second : Nat → Int32} {C M R : Nat} {E : Nat → (Nat → Nat → Prop) → Prop} {a b c d : Int32}
theorem xq_n {post : SX → Prop} {m h : Nat} (hm : m < 30) (eh : x_homeOf m = nI h) (h10 : h < 10)
    (hp : post (x_classCount, x_methodCount, x_ruleCount, x_isBuilt, x_faultPlace, x_namedClasses ||| x_ancestorsOf h, x_madeClasses, x_namedMethods ||| ((1 : Int32) <<< (nI m &&& 31)), x_liveMethods, x_depth, x_stepCount, x_outCount, x_traceCount, x_isInterfaceClass, x_chainOf, x_interfacesOf, x_ancestorsOf, x_homeOf, x_formOf, x_nameOf, x_lengthOf, x_opOf, x_classOf, x_numberOf, x_sourceMethod, x_sourceLine, x_callLine, x_ruleKind, x_ruleClasses, x_ruleNames, x_newNumber, x_familyOf, x_sightOf, x_frameRow, x_frameLine, x_frameHeld, x_outInts, x_traceMethod, x_traceLine)) : wpX_nameMethod post (x_classCount, x_methodCount, x_ruleCount, x_isBuilt, x_faultPlace, x_namedClasses, x_madeClasses, x_namedMethods, x_liveMethods, x_depth, x_stepCount, x_outCount, x_traceCount, x_isInterfaceClass, x_chainOf, x_interfacesOf, x_ancestorsOf, x_homeOf, x_formOf, x_nameOf, x_lengthOf, x_opOf, x_classOf, x_numberOf, x_sourceMethod, x_sourceLine, x_callLine, x_ruleKind, x_ruleClasses, x_ruleNames, x_newNumber, x_familyOf, x_sightOf, x_frameRow, x_frameLine, x_frameHeld, x_outInts, x_traceMethod, x_traceLine) (nI m) := by
  unfold wpX_nameMethod
  dsimp only
  rw [nI_c (by omega), eh, nI_c (by omega)]
  exact br_f (oI_n (by omega)) (nm_e ⟨vp_in_nI hm (by decide), vp_in_nI h10 (by decide), nm_e hp⟩)
theorem xq_i (T : tp_p C M R x_isInterfaceClass x_ancestorsOf x_interfacesOf x_chainOf y_parent y_many x_homeOf x_ruleKind x_ruleClasses x_ruleNames x_formOf x_nameOf x_lengthOf y_isAbstract y_name y_length x_opOf x_classOf x_numberOf x_sourceMethod x_sourceLine x_callLine y_op y_first y_second) {post : SX → Prop} {m : Nat} (hm : m < M) (h : mi_ok C M R x_ancestorsOf x_homeOf y_name x_ruleKind x_ruleClasses x_ruleNames (fun m => y_isAbstract m = 0) E a b c d) (J : ∀ S, cl_ok C M R x_ancestorsOf x_homeOf y_name x_ruleKind x_ruleClasses x_ruleNames (fun m => y_isAbstract m = 0) E S → mk_le a b c d S → S 2 m)
    (K : ∀ a' c', mi_ok C M R x_ancestorsOf x_homeOf y_name x_ruleKind x_ruleClasses x_ruleNames (fun m => y_isAbstract m = 0) E a' b c' d → mk_gr a b c d a' b c' d → bt c' m = true → post (x_classCount, x_methodCount, x_ruleCount, x_isBuilt, x_faultPlace, a', b, c', d, x_depth, x_stepCount, x_outCount, x_traceCount, x_isInterfaceClass, x_chainOf, x_interfacesOf, x_ancestorsOf, x_homeOf, x_formOf, x_nameOf, x_lengthOf, x_opOf, x_classOf, x_numberOf, x_sourceMethod, x_sourceLine, x_callLine, x_ruleKind, x_ruleClasses, x_ruleNames, x_newNumber, x_familyOf, x_sightOf, x_frameRow, x_frameLine, x_frameHeld, x_outInts, x_traceMethod, x_traceLine)) : wpX_nameMethod post (x_classCount, x_methodCount, x_ruleCount, x_isBuilt, x_faultPlace, a, b, c, d, x_depth, x_stepCount, x_outCount, x_traceCount, x_isInterfaceClass, x_chainOf, x_interfacesOf, x_ancestorsOf, x_homeOf, x_formOf, x_nameOf, x_lengthOf, x_opOf, x_classOf, x_numberOf, x_sourceMethod, x_sourceLine, x_callLine, x_ruleKind, x_ruleClasses, x_ruleNames, x_newNumber, x_familyOf, x_sightOf, x_frameRow, x_frameLine, x_frameHeld, x_outInts, x_traceMethod, x_traceLine) (nI m) := by
  have h30 := T.2.2.1.1
  have h10 := T.1.1
  obtain ⟨e1, e2⟩ := mh_h T.2.2.1 h10 hm
  obtain ⟨k1, k2, k3⟩ := mi_Q T.1 T.2.2.1 h hm J
  exact xq_n (by omega) e1 (by omega) (K _ _ k1 k2 k3)
theorem xr_i (T : tp_p C M R x_isInterfaceClass x_ancestorsOf x_interfacesOf x_chainOf y_parent y_many x_homeOf x_ruleKind x_ruleClasses x_ruleNames x_formOf x_nameOf x_lengthOf y_isAbstract y_name y_length x_opOf x_classOf x_numberOf x_sourceMethod x_sourceLine x_callLine y_op y_first y_second) {post : SX → Prop} {m : Nat} (hm : m < M) (h : mi_ok C M R x_ancestorsOf x_homeOf y_name x_ruleKind x_ruleClasses x_ruleNames (fun m => y_isAbstract m = 0) E a b c d) (J : ∀ S, cl_ok C M R x_ancestorsOf x_homeOf y_name x_ruleKind x_ruleClasses x_ruleNames (fun m => y_isAbstract m = 0) E S → mk_le a b c d S → S 2 m ∧ (y_isAbstract m = 0 → S 3 m))
    (K : ∀ a' c' d', mi_ok C M R x_ancestorsOf x_homeOf y_name x_ruleKind x_ruleClasses x_ruleNames (fun m => y_isAbstract m = 0) E a' b c' d' → mk_gr a b c d a' b c' d' → bt c' m = true → (y_isAbstract m = 0 → bt d' m = true) → post (x_classCount, x_methodCount, x_ruleCount, x_isBuilt, x_faultPlace, a', b, c', d', x_depth, x_stepCount, x_outCount, x_traceCount, x_isInterfaceClass, x_chainOf, x_interfacesOf, x_ancestorsOf, x_homeOf, x_formOf, x_nameOf, x_lengthOf, x_opOf, x_classOf, x_numberOf, x_sourceMethod, x_sourceLine, x_callLine, x_ruleKind, x_ruleClasses, x_ruleNames, x_newNumber, x_familyOf, x_sightOf, x_frameRow, x_frameLine, x_frameHeld, x_outInts, x_traceMethod, x_traceLine)) :
    wpX_reachMethod post (x_classCount, x_methodCount, x_ruleCount, x_isBuilt, x_faultPlace, a, b, c, d, x_depth, x_stepCount, x_outCount, x_traceCount, x_isInterfaceClass, x_chainOf, x_interfacesOf, x_ancestorsOf, x_homeOf, x_formOf, x_nameOf, x_lengthOf, x_opOf, x_classOf, x_numberOf, x_sourceMethod, x_sourceLine, x_callLine, x_ruleKind, x_ruleClasses, x_ruleNames, x_newNumber, x_familyOf, x_sightOf, x_frameRow, x_frameLine, x_frameHeld, x_outInts, x_traceMethod, x_traceLine) (nI m) := by
  have h30 := T.2.2.1.1
  unfold wpX_reachMethod
  dsimp only
  refine xq_i T hm h (fun S hS g => (J S hS g).1) (fun a' c' m1 m2 m3 => ?_)
  dsimp only
  refine br_f (oI_n (by omega)) ⟨vp_in_nI (by omega) (by decide), ?_⟩
  rw [nI_c (by omega)]
  rcases (T.2.2.2.1 m hm).2.2.1 with ⟨a1, a2⟩ | ⟨a1, a2⟩
  · obtain ⟨n1, n2, n3⟩ := mi_L h30 m1 hm m3 (fun S hS g => (J S hS (h.1 S hS)).2 a1)
    exact br_t a2 (nm_e (K _ _ _ n1 (mk_grt m2 n2) m3 (fun _ => n3)))
  · exact br_f (by rw [a2]; decide) (K _ _ _ m1 m2 m3 (fun z => absurd z a1))
theorem xu_b (T : tp_p C M R x_isInterfaceClass x_ancestorsOf x_interfacesOf x_chainOf y_parent y_many x_homeOf x_ruleKind x_ruleClasses x_ruleNames x_formOf x_nameOf x_lengthOf y_isAbstract y_name y_length x_opOf x_classOf x_numberOf x_sourceMethod x_sourceLine x_callLine y_op y_first y_second) {A B : Prop} {m r : Nat} (hm : m < M) (hr : r < R) (t : bt (x_ruleClasses r) (hq_t (x_homeOf m)) = true → bt (x_ruleNames r) (hq_t (y_name m)) = true → B)
    (f : ¬ (bt (x_ruleClasses r) (hq_t (x_homeOf m)) = true ∧ bt (x_ruleNames r) (hq_t (y_name m)) = true) → A) : wpX_isUnderRule (fun z => (z = 0 → A) ∧ (¬ z = 0 → B)) (x_classCount, x_methodCount, x_ruleCount, x_isBuilt, x_faultPlace, x_namedClasses, x_madeClasses, x_namedMethods, x_liveMethods, x_depth, x_stepCount, x_outCount, x_traceCount, x_isInterfaceClass, x_chainOf, x_interfacesOf, x_ancestorsOf, x_homeOf, x_formOf, x_nameOf, x_lengthOf, x_opOf, x_classOf, x_numberOf, x_sourceMethod, x_sourceLine, x_callLine, x_ruleKind, x_ruleClasses, x_ruleNames, x_newNumber, x_familyOf, x_sightOf, x_frameRow, x_frameLine, x_frameHeld, x_outInts, x_traceMethod, x_traceLine) (nI m) (nI r) := by
  have h30 := T.2.2.1.1
  have h10 := T.1.1
  have h4 := T.2.2.2.2.2.2.1
  obtain ⟨e1, e2⟩ := mh_h T.2.2.1 h10 hm
  obtain ⟨⟨n, n10, f1, f2⟩, _⟩ := T.2.2.2.1 m hm
  rw [f2, hq_e (by omega)] at t f
  unfold wpX_isUnderRule
  dsimp only
  rw [nI_c (by omega), nI_c (by omega), e1, f1]
  refine ⟨vp_in_nI (by omega) (by decide), vp_in_nI (by omega) (by decide), xh_b (by omega) (fun z => ⟨vp_in_nI (by omega) (by decide), vp_in_nI (by omega) (by decide), ?_⟩) (fun z => br_0 (f (fun q => z q.1)))⟩
  exact xh_b (by omega) (fun y => br_1 (t z y)) (fun y => br_0 (f (fun q => y q.2)))
/-- the roots of a rule -/
def rt_p (C M : Nat) (hom nam rc rn : Nat → Int32) (fil : Nat → Prop) (r : Nat) (a c d : Int32) : Prop :=
  (∀ k, k < C → bt (rc r) k = true → bt a k = true) ∧
  ∀ m, m < M → bt (rc r) (hq_t (hom m)) = true → bt (rn r) (hq_t (nam m)) = true → bt c m = true ∧ (fil m → bt d m = true)
theorem rt_g {hom nam rc rn : Nat → Int32} {fil : Nat → Prop} {r : Nat} {a' b' c' d' : Int32} (h : rt_p C M hom nam rc rn fil r a c d) (g : mk_gr a b c d a' b' c' d') : rt_p C M hom nam rc rn fil r a' c' d' :=
  ⟨fun k hk z => g.1 k (h.1 k hk z), fun m hm x y => ⟨g.2.2.1 m (h.2 m hm x y).1, fun z => g.2.2.2 m ((h.2 m hm x y).2 z)⟩⟩
theorem xr_m (T : tp_p C M R x_isInterfaceClass x_ancestorsOf x_interfacesOf x_chainOf y_parent y_many x_homeOf x_ruleKind x_ruleClasses x_ruleNames x_formOf x_nameOf x_lengthOf y_isAbstract y_name y_length x_opOf x_classOf x_numberOf x_sourceMethod x_sourceLine x_callLine y_op y_first y_second) (hM : x_methodCount = nI M) {post : SX → Prop} {r : Nat} (hr : r < R) (h0 : x_ruleKind r = 0) {a0 b0 c0 d0 : Int32} (h1 : ∀ k, k < C → bt (x_ruleClasses r) k = true → bt a0 k = true)
    (K : ∀ a b c d, mi_ok C M R x_ancestorsOf x_homeOf y_name x_ruleKind x_ruleClasses x_ruleNames (fun m => y_isAbstract m = 0) E a b c d → mk_gr a0 b0 c0 d0 a b c d → rt_p C M x_homeOf y_name x_ruleClasses x_ruleNames (fun m => y_isAbstract m = 0) r a c d → post (x_classCount, x_methodCount, x_ruleCount, x_isBuilt, x_faultPlace, a, b, c, d, x_depth, x_stepCount, x_outCount, x_traceCount, x_isInterfaceClass, x_chainOf, x_interfacesOf, x_ancestorsOf, x_homeOf, x_formOf, x_nameOf, x_lengthOf, x_opOf, x_classOf, x_numberOf, x_sourceMethod, x_sourceLine, x_callLine, x_ruleKind, x_ruleClasses, x_ruleNames, x_newNumber, x_familyOf, x_sightOf, x_frameRow, x_frameLine, x_frameHeld, x_outInts, x_traceMethod, x_traceLine)) :
    ∀ q i f a b c d, i + q = M → q < f → mi_ok C M R x_ancestorsOf x_homeOf y_name x_ruleKind x_ruleClasses x_ruleNames (fun m => y_isAbstract m = 0) E a b c d → mk_gr a0 b0 c0 d0 a b c d →
      (∀ m, m < i → bt (x_ruleClasses r) (hq_t (x_homeOf m)) = true → bt (x_ruleNames r) (hq_t (y_name m)) = true → bt c m = true ∧ (y_isAbstract m = 0 → bt d m = true)) →
      wX_markRootsOf_46 post (nI r) f (nI i) x_classCount x_methodCount x_ruleCount x_isBuilt x_faultPlace a b c d x_depth x_stepCount x_outCount x_traceCount x_isInterfaceClass x_chainOf x_interfacesOf x_ancestorsOf x_homeOf x_formOf x_nameOf x_lengthOf x_opOf x_classOf x_numberOf x_sourceMethod x_sourceLine x_callLine x_ruleKind x_ruleClasses x_ruleNames x_newNumber x_familyOf x_sightOf x_frameRow x_frameLine x_frameHeld x_outInts x_traceMethod x_traceLine := by
  have h30 := T.2.2.1.1
  intro q
  induction q with
  | zero =>
    intro i f a b c d e hf h g z
    obtain ⟨f, rfl⟩ : ∃ q, f = q + 1 := ⟨f - 1, by omega⟩
    have e : i = M := by omega
    subst e
    rw [wX_markRootsOf_46]
    exact br_t (by rw [hM]; exact nI_le (Nat.le_refl _) (by omega)) (K a b c d h g ⟨fun k hk y => g.1 k (h1 k hk y), z⟩)
  | succ q ih =>
    intro i f a b c d e hf h g z
    obtain ⟨f, rfl⟩ : ∃ q, f = q + 1 := ⟨f - 1, by omega⟩
    rw [wX_markRootsOf_46]
    refine br_f (by rw [hM]; exact nI_ge (by omega) (by omega)) (xu_b T (by omega) hr (fun y1 y2 => ?_) (fun y => ?_))
    · refine xr_i T (by omega) h (fun S hS _ => (hS.1 r hr h0).2 i (by omega) y1 y2) (fun a' c' d' m1 m2 m3 m4 => ?_)
      refine nm_r (nI_1 i) (ih (i + 1) f a' b c' d' (by omega) (by omega) m1 (mk_grt g m2) (fun m hm x y => ?_))
      rcases Nat.lt_or_ge m i with w | w
      · exact ⟨m2.2.2.1 m (z m w x y).1, fun v => m2.2.2.2 m ((z m w x y).2 v)⟩
      · have : m = i := by omega
        subst this; exact ⟨m3, m4⟩
    · refine nm_r (nI_1 i) (ih (i + 1) f a b c d (by omega) (by omega) h g (fun m hm x w => ?_))
      rcases Nat.lt_or_ge m i with v | v
      · exact z m v x w
      · have : m = i := by omega
        subst this; exact absurd ⟨x, w⟩ y
theorem xr_c (T : tp_p C M R x_isInterfaceClass x_ancestorsOf x_interfacesOf x_chainOf y_parent y_many x_homeOf x_ruleKind x_ruleClasses x_ruleNames x_formOf x_nameOf x_lengthOf y_isAbstract y_name y_length x_opOf x_classOf x_numberOf x_sourceMethod x_sourceLine x_callLine y_op y_first y_second) (hC : x_classCount = nI C) (hM : x_methodCount = nI M) {post : SX → Prop} {r : Nat} (hr : r < R) (h0 : x_ruleKind r = 0) {a0 : Int32}
    (K : ∀ a' b' c' d', mi_ok C M R x_ancestorsOf x_homeOf y_name x_ruleKind x_ruleClasses x_ruleNames (fun m => y_isAbstract m = 0) E a' b' c' d' → mk_gr a0 b c d a' b' c' d' → rt_p C M x_homeOf y_name x_ruleClasses x_ruleNames (fun m => y_isAbstract m = 0) r a' c' d' → post (x_classCount, x_methodCount, x_ruleCount, x_isBuilt, x_faultPlace, a', b', c', d', x_depth, x_stepCount, x_outCount, x_traceCount, x_isInterfaceClass, x_chainOf, x_interfacesOf, x_ancestorsOf, x_homeOf, x_formOf, x_nameOf, x_lengthOf, x_opOf, x_classOf, x_numberOf, x_sourceMethod, x_sourceLine, x_callLine, x_ruleKind, x_ruleClasses, x_ruleNames, x_newNumber, x_familyOf, x_sightOf, x_frameRow, x_frameLine, x_frameHeld, x_outInts, x_traceMethod, x_traceLine)) :
    ∀ q i f a, i + q = C → q < f → mi_ok C M R x_ancestorsOf x_homeOf y_name x_ruleKind x_ruleClasses x_ruleNames (fun m => y_isAbstract m = 0) E a b c d → mk_gr a0 b c d a b c d → (∀ k, k < i → bt (x_ruleClasses r) k = true → bt a k = true) →
      wX_markRootsOf_2 post (nI r) x_classCount x_methodCount x_ruleCount x_isBuilt x_faultPlace b c d x_depth x_stepCount x_outCount x_traceCount x_isInterfaceClass x_chainOf x_interfacesOf x_ancestorsOf x_homeOf x_formOf x_nameOf x_lengthOf x_opOf x_classOf x_numberOf x_sourceMethod x_sourceLine x_callLine x_ruleKind x_ruleClasses x_ruleNames x_newNumber x_familyOf x_sightOf x_frameRow x_frameLine x_frameHeld x_outInts x_traceMethod x_traceLine f (nI i) a := by
  have h10 := T.1.1
  have h4 := T.2.2.2.2.2.2.1
  intro q
  induction q with
  | zero =>
    intro i f a e hf h g z
    obtain ⟨f, rfl⟩ : ∃ q, f = q + 1 := ⟨f - 1, by omega⟩
    have e : i = C := by omega
    subst e
    rw [wX_markRootsOf_2]
    refine br_t (by rw [hC]; exact nI_le (Nat.le_refl _) (by omega)) ⟨M + 1, ?_⟩
    exact xr_m T hM hr h0 z (fun a' b' c' d' m1 m2 m3 => K a' b' c' d' m1 (mk_grt g m2) m3) M 0 (M + 1) a b c d (by omega) (by omega) h (mk_gr0 a b c d) (fun m hm => by omega)
  | succ q ih =>
    intro i f a e hf h g z
    obtain ⟨f, rfl⟩ : ∃ q, f = q + 1 := ⟨f - 1, by omega⟩
    rw [wX_markRootsOf_2]
    refine br_f (by rw [hC]; exact nI_ge (by omega) (by omega)) ⟨vp_in_nI (by omega) (by decide), ?_⟩
    rw [nI_c (show r < 10000 by omega), nI_c (show i < 10000 by omega)]
    refine xh_b (by omega) (fun y => ⟨vp_in_nI (by omega) (by decide), ?_⟩) (fun y => ?_)
    · obtain ⟨m1, m2, m3⟩ := mi_N T.1 h (k := i) (by omega) (fun S hS _ => (hS.1 r hr h0).1 i (by omega) y)
      refine nm_e (nm_r (nI_1 i) (ih (i + 1) f _ (by omega) (by omega) m1 (mk_grt g m2) (fun k hk w => ?_)))
      rcases Nat.lt_or_ge k i with v | v
      · exact m2.1 k (z k v w)
      · have : k = i := by omega
        subst this; exact m3
    · refine nm_r (nI_1 i) (ih (i + 1) f a (by omega) (by omega) h g (fun k hk w => ?_))
      rcases Nat.lt_or_ge k i with v | v
      · exact z k v w
      · have : k = i := by omega
        subst this; exact absurd w y
theorem xr_v (T : tp_p C M R x_isInterfaceClass x_ancestorsOf x_interfacesOf x_chainOf y_parent y_many x_homeOf x_ruleKind x_ruleClasses x_ruleNames x_formOf x_nameOf x_lengthOf y_isAbstract y_name y_length x_opOf x_classOf x_numberOf x_sourceMethod x_sourceLine x_callLine y_op y_first y_second) (hC : x_classCount = nI C) (hM : x_methodCount = nI M) {post : SX → Prop} {r : Nat} (hr : r < R) (h0 : x_ruleKind r = 0) (h : mi_ok C M R x_ancestorsOf x_homeOf y_name x_ruleKind x_ruleClasses x_ruleNames (fun m => y_isAbstract m = 0) E a b c d)
    (K : ∀ a' b' c' d', mi_ok C M R x_ancestorsOf x_homeOf y_name x_ruleKind x_ruleClasses x_ruleNames (fun m => y_isAbstract m = 0) E a' b' c' d' → mk_gr a b c d a' b' c' d' → rt_p C M x_homeOf y_name x_ruleClasses x_ruleNames (fun m => y_isAbstract m = 0) r a' c' d' → post (x_classCount, x_methodCount, x_ruleCount, x_isBuilt, x_faultPlace, a', b', c', d', x_depth, x_stepCount, x_outCount, x_traceCount, x_isInterfaceClass, x_chainOf, x_interfacesOf, x_ancestorsOf, x_homeOf, x_formOf, x_nameOf, x_lengthOf, x_opOf, x_classOf, x_numberOf, x_sourceMethod, x_sourceLine, x_callLine, x_ruleKind, x_ruleClasses, x_ruleNames, x_newNumber, x_familyOf, x_sightOf, x_frameRow, x_frameLine, x_frameHeld, x_outInts, x_traceMethod, x_traceLine)) : wpX_markRootsOf post (x_classCount, x_methodCount, x_ruleCount, x_isBuilt, x_faultPlace, a, b, c, d, x_depth, x_stepCount, x_outCount, x_traceCount, x_isInterfaceClass, x_chainOf, x_interfacesOf, x_ancestorsOf, x_homeOf, x_formOf, x_nameOf, x_lengthOf, x_opOf, x_classOf, x_numberOf, x_sourceMethod, x_sourceLine, x_callLine, x_ruleKind, x_ruleClasses, x_ruleNames, x_newNumber, x_familyOf, x_sightOf, x_frameRow, x_frameLine, x_frameHeld, x_outInts, x_traceMethod, x_traceLine) (nI r) := by
  unfold wpX_markRootsOf
  exact ⟨C + 1, xr_c T hC hM hr h0 K C 0 (C + 1) a (by omega) (by omega) h (mk_gr0 a b c d) (fun k hk => by omega)⟩
theorem xr_l (T : tp_p C M R x_isInterfaceClass x_ancestorsOf x_interfacesOf x_chainOf y_parent y_many x_homeOf x_ruleKind x_ruleClasses x_ruleNames x_formOf x_nameOf x_lengthOf y_isAbstract y_name y_length x_opOf x_classOf x_numberOf x_sourceMethod x_sourceLine x_callLine y_op y_first y_second) (hC : x_classCount = nI C) (hM : x_methodCount = nI M) (hR : x_ruleCount = nI R) {post : SX → Prop}
    (K : ∀ a b c d, mi_ok C M R x_ancestorsOf x_homeOf y_name x_ruleKind x_ruleClasses x_ruleNames (fun m => y_isAbstract m = 0) E a b c d → (∀ r, r < R → x_ruleKind r = 0 → rt_p C M x_homeOf y_name x_ruleClasses x_ruleNames (fun m => y_isAbstract m = 0) r a c d) → post (x_classCount, x_methodCount, x_ruleCount, x_isBuilt, x_faultPlace, a, b, c, d, x_depth, x_stepCount, x_outCount, x_traceCount, x_isInterfaceClass, x_chainOf, x_interfacesOf, x_ancestorsOf, x_homeOf, x_formOf, x_nameOf, x_lengthOf, x_opOf, x_classOf, x_numberOf, x_sourceMethod, x_sourceLine, x_callLine, x_ruleKind, x_ruleClasses, x_ruleNames, x_newNumber, x_familyOf, x_sightOf, x_frameRow, x_frameLine, x_frameHeld, x_outInts, x_traceMethod, x_traceLine)) :
    ∀ q i f a b c d, i + q = R → q < f → mi_ok C M R x_ancestorsOf x_homeOf y_name x_ruleKind x_ruleClasses x_ruleNames (fun m => y_isAbstract m = 0) E a b c d → (∀ r, r < i → x_ruleKind r = 0 → rt_p C M x_homeOf y_name x_ruleClasses x_ruleNames (fun m => y_isAbstract m = 0) r a c d) → wX_markRoots_2 post f (nI i) x_classCount x_methodCount x_ruleCount x_isBuilt x_faultPlace a b c d x_depth x_stepCount x_outCount x_traceCount x_isInterfaceClass x_chainOf x_interfacesOf x_ancestorsOf x_homeOf x_formOf x_nameOf x_lengthOf x_opOf x_classOf x_numberOf x_sourceMethod x_sourceLine x_callLine x_ruleKind x_ruleClasses x_ruleNames x_newNumber x_familyOf x_sightOf x_frameRow x_frameLine x_frameHeld x_outInts x_traceMethod x_traceLine := by
  have h4 := T.2.2.2.2.2.2.1
  intro q
  induction q with
  | zero =>
    intro i f a b c d e hf h z
    obtain ⟨f, rfl⟩ : ∃ q, f = q + 1 := ⟨f - 1, by omega⟩
    have e : i = R := by omega
    subst e
    rw [wX_markRoots_2]
    exact br_t (by rw [hR]; exact nI_le (Nat.le_refl _) (by omega)) (K a b c d h z)
  | succ q ih =>
    intro i f a b c d e hf h z
    obtain ⟨f, rfl⟩ : ∃ q, f = q + 1 := ⟨f - 1, by omega⟩
    rw [wX_markRoots_2]
    refine br_f (by rw [hR]; exact nI_ge (by omega) (by omega)) ⟨vp_in_nI (by omega) (by decide), ?_⟩
    rw [nI_c (by omega)]
    refine br_c (fun y => ?_) (fun y => ?_)
    · refine xr_v T hC hM (by omega) y h (fun a' b' c' d' m1 m2 m3 => ?_)
      refine nm_r (nI_1 i) (ih (i + 1) f a' b' c' d' (by omega) (by omega) m1 (fun r hr w => ?_))
      rcases Nat.lt_or_ge r i with v | v
      · exact rt_g (z r v w) m2
      · have : r = i := by omega
        subst this; exact m3
    · refine nm_r (nI_1 i) (ih (i + 1) f a b c d (by omega) (by omega) h (fun r hr w => ?_))
      rcases Nat.lt_or_ge r i with v | v
      · exact z r v w
      · have : r = i := by omega
        subst this; exact absurd w y
end
