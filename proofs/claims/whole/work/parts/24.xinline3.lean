/-! ===== X's inlining: the loops ===== -/
section
variable {x_classCount x_methodCount x_ruleCount x_isBuilt x_faultPlace x_namedClasses x_madeClasses x_namedMethods x_liveMethods x_depth x_stepCount x_outCount x_traceCount : Int32} {x_isInterfaceClass x_chainOf x_interfacesOf x_ancestorsOf x_homeOf x_formOf x_nameOf x_lengthOf x_opOf x_classOf x_numberOf x_sourceMethod x_sourceLine x_callLine x_ruleKind x_ruleClasses x_ruleNames x_newNumber x_familyOf x_sightOf x_frameRow x_frameLine x_frameHeld x_outInts x_traceMethod x_traceLine : Nat → Int32} {y_parent y_many y_isAbstract y_name y_length y_op y_first y_second : Nat → Int32} {C M R : Nat} {inl : Nat → Int32} {nv : Nat → Nat → Int32}
theorem xg_l (NF : ff_v C M x_isInterfaceClass x_ancestorsOf x_chainOf x_homeOf y_isAbstract y_name y_length y_op y_first y_second = none) (hC : x_classCount = nI C) (hM : x_methodCount = nI M) (hI : ∀ m k, m < M → k < 6 → il_p C M x_ancestorsOf x_chainOf x_homeOf y_isAbstract y_name y_length y_op y_first y_second x_madeClasses x_liveMethods m k (inl (6 * m + k))) (hi : in_ok M inl y_length) {post : SX → Prop} {J2 : Int32 → Int32 → Int32 → Int32 → Int32 → Int32 → Int32 → Int32 → Int32 → Int32 → Int32 → Int32 → Int32 → Int32 → (Nat → Int32) → (Nat → Int32) → (Nat → Int32) → (Nat → Int32) → (Nat → Int32) → (Nat → Int32) → (Nat → Int32) → (Nat → Int32) → (Nat → Int32) → (Nat → Int32) → (Nat → Int32) → (Nat → Int32) → (Nat → Int32) → (Nat → Int32) → (Nat → Int32) → (Nat → Int32) → (Nat → Int32) → (Nat → Int32) → (Nat → Int32) → (Nat → Int32) → (Nat → Int32) → (Nat → Int32) → (Nat → Int32) → (Nat → Int32) → (Nat → Int32) → (Nat → Int32) → Prop} {m : Nat} (hm : m < M)
    (K : ∀ L O P N S U A, pv_p C M R x_isInterfaceClass x_ancestorsOf x_interfacesOf x_chainOf y_parent y_many x_homeOf x_ruleKind x_ruleClasses x_ruleNames x_formOf x_nameOf y_isAbstract y_name y_length y_op y_first y_second inl nv m (hq_t (y_length m)) L O P N S U A → L (30 + m) = nI (po_n inl y_length m (hq_t (y_length m))) → J2 (nI (m + 1)) x_classCount x_methodCount x_ruleCount x_isBuilt x_faultPlace x_namedClasses x_madeClasses x_namedMethods x_liveMethods x_depth x_stepCount x_outCount x_traceCount x_isInterfaceClass x_chainOf x_interfacesOf x_ancestorsOf x_homeOf x_formOf x_nameOf L O P N S U A x_ruleKind x_ruleClasses x_ruleNames x_newNumber x_familyOf x_sightOf x_frameRow x_frameLine x_frameHeld x_outInts x_traceMethod x_traceLine) :
    ∀ q k f L O P N S U A, k + q = hq_t (y_length m) → q < f → pv_p C M R x_isInterfaceClass x_ancestorsOf x_interfacesOf x_chainOf y_parent y_many x_homeOf x_ruleKind x_ruleClasses x_ruleNames x_formOf x_nameOf y_isAbstract y_name y_length y_op y_first y_second inl nv m k L O P N S U A → L (30 + m) = nI (po_n inl y_length m k) →
      wX_inlineShortMethods_29 post J2 (nI m) (nI (hq_t (y_length m))) f (nI k) x_classCount x_methodCount x_ruleCount x_isBuilt x_faultPlace x_namedClasses x_madeClasses x_namedMethods x_liveMethods x_depth x_stepCount x_outCount x_traceCount x_isInterfaceClass x_chainOf x_interfacesOf x_ancestorsOf x_homeOf x_formOf x_nameOf L O P N S U A x_ruleKind x_ruleClasses x_ruleNames x_newNumber x_familyOf x_sightOf x_frameRow x_frameLine x_frameHeld x_outInts x_traceMethod x_traceLine := by
  intro q
  induction q with
  | zero =>
    intro k f L O P N S U A e hf z l
    obtain ⟨f, rfl⟩ : ∃ q, f = q + 1 := ⟨f - 1, by omega⟩
    have e : k = hq_t (y_length m) := by omega
    subst e
    have l6 := (tp_len z.1 hm).2.2
    rw [wX_inlineShortMethods_29]
    exact br_t (nI_le (by omega) (by omega)) (nm_r (nI_1 m) (K L O P N S U A z l))
  | succ q ih =>
    intro k f L O P N S U A e hf z l
    obtain ⟨f, rfl⟩ : ∃ q, f = q + 1 := ⟨f - 1, by omega⟩
    have T := z.1
    have h30 := T.2.2.1.1
    have l6 := (tp_len T hm).2.2
    have hk : k < hq_t (y_length m) := by omega
    have cp : (∀ t, ¬ it_p C M x_ancestorsOf x_chainOf x_homeOf y_isAbstract y_name y_length y_op y_first y_second x_madeClasses x_liveMethods m k t) →
        wX_inlineShortMethods_86 post J2 (wX_inlineShortMethods_29 post J2 (nI m) (nI (hq_t (y_length m))) f) (nI m) (nI (hq_t (y_length m))) (nI k) (nI (24 * m + k)) x_classCount x_methodCount x_ruleCount x_isBuilt x_faultPlace x_namedClasses x_madeClasses x_namedMethods x_liveMethods x_depth x_stepCount x_outCount x_traceCount x_isInterfaceClass x_chainOf x_interfacesOf x_ancestorsOf x_homeOf x_formOf x_nameOf L O P N S U A x_ruleKind x_ruleClasses x_ruleNames x_newNumber x_familyOf x_sightOf x_frameRow x_frameLine x_frameHeld x_outInts x_traceMethod x_traceLine := fun no => by
      have et : inl (6 * m + k) = -1 := by
        rcases hI m k hm (by omega) with ⟨e, _⟩ | ⟨t, _, i⟩
        · exact e
        · exact absurd i (no t)
      unfold wX_inlineShortMethods_86
      refine xe_c hi hm hk et z l (fun L' O' P' N' S' U' A' z' l' => ?_)
      exact nm_r (nI_1 k) (ih (k + 1) f L' O' P' N' S' U' A' (by omega) (by omega) z' l')
    rw [wX_inlineShortMethods_29]
    refine br_f (nI_ge (by omega) (by omega)) (nm_r (nI_a24 m k) (xh_b (by omega) (fun y => ?_) (fun y => ?_)))
    · refine xT_v T NF hC hM hm hk (fun t tM tt => ?_) (fun no => ?_)
      · unfold wX_inlineShortMethods_63
        refine br_f (oI_n (by omega)) (pk_eq t m (fun w => cp (fun s hs => ?_)) (fun w => xS_b T tM (fun ab sh => ?_) (fun ns => cp (fun s hs => ?_))))
        · rw [it_i] at hs
          have := tg_u tt hs.2.2.2.2.2.2
          exact hs.2.2.2.1 (by omega)
        · have et : inl (6 * m + k) = nI t := by
            rcases hI m k hm (by omega) with ⟨_, n⟩ | ⟨s, e, i⟩
            · exact absurd (it_i.mpr ⟨y, hk, tM, w, ab, sh, tt⟩) (n t)
            · rw [e, tg_u tt (it_i.mp i).2.2.2.2.2.2]
          refine xe_v hi hm hk tM sh.1 sh.2 et z l (fun L' O' P' N' S' U' A' z' l' => ?_)
          exact nm_r (nI_1 k) (ih (k + 1) f L' O' P' N' S' U' A' (by omega) (by omega) z' l')
        · rw [it_i] at hs
          have := tg_u tt hs.2.2.2.2.2.2
          subst this
          exact ns ⟨hs.2.2.2.2.1, hs.2.2.2.2.2.1⟩
      · unfold wX_inlineShortMethods_63
        refine br_t rfl (cp (fun s hs => ?_))
        rw [it_i] at hs
        exact no s hs.2.2.2.2.2.2
    · unfold wX_inlineShortMethods_63
      exact br_t rfl (cp (fun s hs => y hs.1))
theorem xg_v (T : tp_p C M R x_isInterfaceClass x_ancestorsOf x_interfacesOf x_chainOf y_parent y_many x_homeOf x_ruleKind x_ruleClasses x_ruleNames x_formOf x_nameOf x_lengthOf y_isAbstract y_name y_length x_opOf x_classOf x_numberOf x_sourceMethod x_sourceLine x_callLine y_op y_first y_second) (NF : ff_v C M x_isInterfaceClass x_ancestorsOf x_chainOf x_homeOf y_isAbstract y_name y_length y_op y_first y_second = none) (hC : x_classCount = nI C) (hM : x_methodCount = nI M) (hI : ∀ m k, m < M → k < 6 → il_p C M x_ancestorsOf x_chainOf x_homeOf y_isAbstract y_name y_length y_op y_first y_second x_madeClasses x_liveMethods m k (inl (6 * m + k))) (hn : ∀ m x, m < M → x < hq_t (y_length m) → x_numberOf (24 * m + x) = nv m x) {post : SX → Prop}
    (K : ∀ L O P N S U A, pv_p C M R x_isInterfaceClass x_ancestorsOf x_interfacesOf x_chainOf y_parent y_many x_homeOf x_ruleKind x_ruleClasses x_ruleNames x_formOf x_nameOf y_isAbstract y_name y_length y_op y_first y_second inl nv M 0 L O P N S U A → post (x_classCount, x_methodCount, x_ruleCount, x_isBuilt, x_faultPlace, x_namedClasses, x_madeClasses, x_namedMethods, x_liveMethods, x_depth, x_stepCount, x_outCount, x_traceCount, x_isInterfaceClass, x_chainOf, x_interfacesOf, x_ancestorsOf, x_homeOf, x_formOf, x_nameOf, L, O, P, N, S, U, A, x_ruleKind, x_ruleClasses, x_ruleNames, x_newNumber, x_familyOf, x_sightOf, x_frameRow, x_frameLine, x_frameHeld, x_outInts, x_traceMethod, x_traceLine)) : wpX_inlineShortMethods post (x_classCount, x_methodCount, x_ruleCount, x_isBuilt, x_faultPlace, x_namedClasses, x_madeClasses, x_namedMethods, x_liveMethods, x_depth, x_stepCount, x_outCount, x_traceCount, x_isInterfaceClass, x_chainOf, x_interfacesOf, x_ancestorsOf, x_homeOf, x_formOf, x_nameOf, x_lengthOf, x_opOf, x_classOf, x_numberOf, x_sourceMethod, x_sourceLine, x_callLine, x_ruleKind, x_ruleClasses, x_ruleNames, x_newNumber, x_familyOf, x_sightOf, x_frameRow, x_frameLine, x_frameHeld, x_outInts, x_traceMethod, x_traceLine) := by
  have h30 := T.2.2.1.1
  have hi : in_ok M inl y_length := in_il (fun m hm => (tp_len T hm).2.2) hI
  have lo : ∀ q m f L O P N S U A, m + q = M → q < f → pv_p C M R x_isInterfaceClass x_ancestorsOf x_interfacesOf x_chainOf y_parent y_many x_homeOf x_ruleKind x_ruleClasses x_ruleNames x_formOf x_nameOf y_isAbstract y_name y_length y_op y_first y_second inl nv m 0 L O P N S U A → wX_inlineShortMethods_2 post f (nI m) x_classCount x_methodCount x_ruleCount x_isBuilt x_faultPlace x_namedClasses x_madeClasses x_namedMethods x_liveMethods x_depth x_stepCount x_outCount x_traceCount x_isInterfaceClass x_chainOf x_interfacesOf x_ancestorsOf x_homeOf x_formOf x_nameOf L O P N S U A x_ruleKind x_ruleClasses x_ruleNames x_newNumber x_familyOf x_sightOf x_frameRow x_frameLine x_frameHeld x_outInts x_traceMethod x_traceLine := by
    intro q
    induction q with
    | zero =>
      intro m f L O P N S U A e hf z
      obtain ⟨f, rfl⟩ : ∃ q, f = q + 1 := ⟨f - 1, by omega⟩
      have e : m = M := by omega
      subst e
      rw [wX_inlineShortMethods_2]
      exact br_t (by rw [hM]; exact nI_le (by omega) (by omega)) (K L O P N S U A z)
    | succ q ih =>
      intro m f L O P N S U A e hf z
      obtain ⟨f, rfl⟩ : ∃ q, f = q + 1 := ⟨f - 1, by omega⟩
      have T := z.1
      have hm : m < M := by omega
      obtain ⟨l1, l2, l6⟩ := tp_len T hm
      rw [wX_inlineShortMethods_2]
      refine br_f (by rw [hM]; exact nI_ge (by omega) (by omega)) ⟨vp_in_nI (by omega) (by decide), ?_⟩
      rw [nI_c (show m < 10000 by omega), nI_b30]
      refine nm_r l1 ⟨vp_in_nI (by omega) (by decide), nm_e ⟨hq_t (y_length m) + 1, ?_⟩⟩
      rw [nI_c (show 30 + m < 10000 by omega)]
      refine xg_l NF hC hM hI hi hm (fun L' O' P' N' S' U' A' z' l' => ?_) (hq_t (y_length m)) 0 _ _ O P N S U A (by omega) (by omega)
        (pv_fr hi hm (by omega) z (fun j hj => pk_un (by omega)) (fun j hj => rfl) (fun j hj => rfl) (fun j hj => rfl) (fun j hj => rfl) (fun j hj => rfl) (fun j hj => rfl)) pk_us
      refine ih (m + 1) f L' O' P' N' S' U' A' (by omega) (by omega) ⟨z'.1, fun m' hm' => ?_, fun x hx => by omega, z'.2.2.2⟩
      rcases Nat.lt_or_ge m' m with v | v
      · exact z'.2.1 m' v
      · have : m' = m := by omega
        subst this; exact ⟨l', z'.2.2.1⟩
  unfold wpX_inlineShortMethods
  exact ⟨M + 1, lo M 0 (M + 1) _ _ _ _ _ _ _ (by omega) (by omega) ⟨T, fun m hm => by omega, fun x hx => by omega, hn⟩⟩
end
/-! ===== the new program asks the same of closed sets on both sides ===== -/
section
variable {y_parent y_many y_isAbstract y_name y_length y_op y_first y_second : Nat → Int32} {x_isInterfaceClass x_ancestorsOf x_interfacesOf x_chainOf x_homeOf x_ruleKind x_ruleClasses x_ruleNames x_formOf x_nameOf : Nat → Int32} {C M R : Nat} {inl : Nat → Int32} {nv : Nat → Nat → Int32} {L O P N S U A : Nat → Int32}
/-- a line as it was told -/
theorem ee_c (T : tp_p C M R x_isInterfaceClass x_ancestorsOf x_interfacesOf x_chainOf y_parent y_many x_homeOf x_ruleKind x_ruleClasses x_ruleNames x_formOf x_nameOf L y_isAbstract y_name y_length O P N S U A y_op y_first y_second) {m k : Nat} (hm : m < M) (hk : k < hq_t (y_length m)) (v : Prop) (nv : ¬ v) (Z : Nat → Nat → Prop) :
    ex_p C (fun m => y_isAbstract m = 0) x_ancestorsOf (fo_v M x_ancestorsOf x_chainOf x_homeOf y_name) (O (24 * m + k)) (P (24 * m + k)) (N (24 * m + k)) Z ↔ ef_p C x_ancestorsOf (fun m => y_isAbstract m = 0) (fo_v M x_ancestorsOf x_chainOf x_homeOf y_name) (y_op (6 * m + k)) (y_first (6 * m + k)) (y_second (6 * m + k)) v Z := by
  have h10 := T.1.1
  obtain ⟨o, o6, e1, e2, e3, e4, e5, _⟩ := T.2.2.2.2.2.1 m k hm hk
  rw [e1, e2]
  by_cases oc : 1 ≤ o ∧ o ≤ 4
  · obtain ⟨c, c10, f1, f2⟩ := e3 oc
    rw [f1, f2]
    have nc : ¬ nI c = -1 := oI_n (by omega)
    rcases (by omega : o = 1 ∨ o = 2 ∨ o = 3 ∨ o = 4) with q | q | q | q
    · subst q
      exact ⟨fun h => ⟨fun _ => ⟨(h nc).1, (h nc).2.1 rfl⟩, fun y => absurd y (by decide), fun y => absurd y (by decide), fun y => absurd y (by decide)⟩,
        fun h _ => ⟨(h.1 rfl).1, fun _ => (h.1 rfl).2, fun y => absurd y (by decide), fun y => absurd y (by decide)⟩⟩
    · subst q
      obtain ⟨n, n10, g1, g2⟩ := e5 (Or.inl rfl)
      rw [g1, g2]
      exact ⟨fun h => ⟨fun y => absurd y (by decide), fun y => absurd y (by decide), fun y => absurd y (by decide), fun _ => ⟨(h nc).1, fun _ => (h nc).2.2.2 rfl⟩⟩,
        fun h _ => ⟨(h.2.2.2 rfl).1, fun y => absurd y (by decide), fun y => absurd y (by decide), fun _ => (h.2.2.2 rfl).2 nv⟩⟩
    · subst q
      obtain ⟨n, n10, g1, g2⟩ := e5 (Or.inr rfl)
      rw [g1, g2]
      exact ⟨fun h => ⟨fun y => absurd y (by decide), fun y => absurd y (by decide), fun _ _ => ⟨(h nc).1, (h nc).2.2.1 rfl⟩, fun y => absurd y (by decide)⟩,
        fun h _ => ⟨(h.2.2.1 rfl nv).1, fun y => absurd y (by decide), fun _ => (h.2.2.1 rfl nv).2, fun y => absurd y (by decide)⟩⟩
    · subst q
      exact ⟨fun h => ⟨fun y => absurd y (by decide), fun _ => (h nc).1, fun y => absurd y (by decide), fun y => absurd y (by decide)⟩,
        fun h _ => ⟨h.2.1 rfl, fun y => absurd y (by decide), fun y => absurd y (by decide), fun y => absurd y (by decide)⟩⟩
  · rw [e4 oc]
    refine ⟨fun _ => ?_, fun _ y => absurd rfl y⟩
    rcases (by omega : o = 0 ∨ o = 5) with q | q
    · subst q; exact ⟨fun y => absurd y (by decide), fun y => absurd y (by decide), fun y => absurd y (by decide), fun y => absurd y (by decide)⟩
    · subst q; exact ⟨fun y => absurd y (by decide), fun y => absurd y (by decide), fun y => absurd y (by decide), fun y => absurd y (by decide)⟩
/-- the told program -/
theorem ee_0 (T : tp_p C M R x_isInterfaceClass x_ancestorsOf x_interfacesOf x_chainOf y_parent y_many x_homeOf x_ruleKind x_ruleClasses x_ruleNames x_formOf x_nameOf L y_isAbstract y_name y_length O P N S U A y_op y_first y_second) {m : Nat} (hm : m < M) (yin : Nat → Int32) (hin : ∀ k, k < hq_t (y_length m) → yin (6 * m + k) < 0) (Z : Nat → Nat → Prop) :
    ew_p C (fun m => y_isAbstract m = 0) x_ancestorsOf (fo_v M x_ancestorsOf x_chainOf x_homeOf y_name) L O P N 0 m Z ↔ ey_p C (fun m => y_isAbstract m = 0) x_ancestorsOf (fo_v M x_ancestorsOf x_chainOf x_homeOf y_name) y_length y_op y_first y_second yin m Z := by
  obtain ⟨l1, l2, _⟩ := tp_len T hm
  unfold ew_p ey_p
  rw [Nat.mul_zero, Nat.zero_add, l1, ← l2]
  exact ⟨fun h k hk => (ee_c T hm hk _ (fun q => q (hin k hk)) Z).mp (h k hk), fun h k hk => (ee_c T hm hk _ (fun q => q (hin k hk)) Z).mpr (h k hk)⟩
/-- the new program -/
theorem ee_1 (T : tp_p C M R x_isInterfaceClass x_ancestorsOf x_interfacesOf x_chainOf y_parent y_many x_homeOf x_ruleKind x_ruleClasses x_ruleNames x_formOf x_nameOf L y_isAbstract y_name y_length O P N S U A y_op y_first y_second) (hi : in_ok M inl y_length) {m : Nat} (hm : m < M) (hl : L (30 + m) = nI (po_n inl y_length m (hq_t (y_length m)))) (hc : ∀ x, x < hq_t (y_length m) → lc_p inl y_length O P N S U A nv m x)
    (hnv : ∀ x, x < hq_t (y_length m) → N (24 * m + x) = nv m x) (hop : ∀ x, x < hq_t (y_length m) → ¬ inl (6 * m + x) < 0 → O (24 * m + x) = 2 ∨ O (24 * m + x) = 3) (Z : Nat → Nat → Prop) :
    ew_p C (fun m => y_isAbstract m = 0) x_ancestorsOf (fo_v M x_ancestorsOf x_chainOf x_homeOf y_name) L O P N 1 m Z ↔ ey_p C (fun m => y_isAbstract m = 0) x_ancestorsOf (fo_v M x_ancestorsOf x_chainOf x_homeOf y_name) y_length y_op y_first y_second inl m Z := by
  have h30 := T.2.2.1.1
  have h10 := T.1.1
  obtain ⟨_, _, l6⟩ := tp_len T hm
  have p24 := po_24 hi h30 hm l6
  have he : hq_t (nI (po_n inl y_length m (hq_t (y_length m)))) = po_n inl y_length m (hq_t (y_length m)) := hq_e (by omega)
  -- the head cell of line x
  have head : ∀ x, x < hq_t (y_length m) → (ex_p C (fun m => y_isAbstract m = 0) x_ancestorsOf (fo_v M x_ancestorsOf x_chainOf x_homeOf y_name) (O (24 * (30 + m) + po_n inl y_length m x)) (P (24 * (30 + m) + po_n inl y_length m x)) (N (24 * (30 + m) + po_n inl y_length m x)) Z ↔
      ef_p C x_ancestorsOf (fun m => y_isAbstract m = 0) (fo_v M x_ancestorsOf x_chainOf x_homeOf y_name) (y_op (6 * m + x)) (y_first (6 * m + x)) (y_second (6 * m + x)) (¬ inl (6 * m + x) < 0) Z) := fun x hx => by
    obtain ⟨c1, c2, _⟩ := hc x hx
    by_cases n : inl (6 * m + x) < 0
    · obtain ⟨q1, q2, q3⟩ := c1 n
      rw [q1, q2, q3, ← hnv x hx]
      exact ee_c T hm hx _ (fun q => q n) Z
    · obtain ⟨q1, q2, q3, _⟩ := c2 n
      rw [q1, q2, q3]
      obtain ⟨o, o6, e1, e2, e3, _⟩ := T.2.2.2.2.2.1 m x hm hx
      have op := hop x hx n
      rw [e1] at op ⊢
      rw [e2]
      rcases op with w | w
      · have : o = 2 := (nI_eq (a := o) (b := 2) (by omega) (by omega)).mp w
        subst this
        obtain ⟨c, c10, f1, f2⟩ := e3 (by omega)
        rw [if_neg (by decide), f1, f2]
        have nc : ¬ nI c = -1 := oI_n (by omega)
        exact ⟨fun h => ⟨fun y => absurd y (by decide), fun y => absurd y (by decide), fun y => absurd y (by decide), fun _ => ⟨(h nc).1, fun y => absurd n y⟩⟩,
          fun h _ => ⟨(h.2.2.2 rfl).1, fun y => absurd y (by decide), fun y => absurd y (by decide), fun y => absurd y (by decide)⟩⟩
      · have : o = 3 := (nI_eq (a := o) (b := 3) (by omega) (by omega)).mp w
        subst this
        rw [if_pos w]
        exact ⟨fun _ => ⟨fun y => absurd y (by decide), fun y => absurd y (by decide), fun _ y => absurd n y, fun y => absurd y (by decide)⟩, fun _ y => absurd rfl y⟩
  unfold ew_p ey_p
  rw [Nat.mul_one, hl, he]
  constructor
  · intro h x hx
    refine (head x hx).mp (h (po_n inl y_length m x) ?_)
    have g1 : 1 ≤ gy_n inl y_length m x := by
      unfold gy_n; split <;> omega
    have := ps_mo (gr := gy_n inl y_length m) (x := x + 1) (y := hq_t (y_length m)) (by omega)
    have e := po_s inl y_length m x
    unfold po_n at *
    omega
  · intro h k hk
    obtain ⟨x, i, hx, hx2, rfl⟩ := ps_at hk
    rcases Nat.eq_zero_or_pos i with z | z
    · subst z
      exact (head x hx).mpr (h x hx)
    · by_cases n : inl (6 * m + x) < 0
      · rw [gy_1 n] at hx2; omega
      · rw [gy_t hx n] at hx2
        obtain ⟨_, c2, _⟩ := hc x hx
        obtain ⟨_, _, _, q4⟩ := c2 n
        obtain ⟨j, rfl⟩ : ∃ j, i = 1 + j := ⟨i - 1, by omega⟩
        have := (q4 j (by omega)).2.1
        have e : 24 * (30 + m) + (ps_n (gy_n inl y_length m) x + (1 + j)) = 24 * (30 + m) + po_n inl y_length m x + 1 + j := by unfold po_n; omega
        rw [e, this]
        exact fun y => absurd rfl y
end
