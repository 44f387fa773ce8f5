/-! ===== X's rounds of marking ===== -/
section
variable {x_classCount x_methodCount x_ruleCount x_isBuilt x_faultPlace x_namedClasses x_madeClasses x_namedMethods x_liveMethods x_depth x_stepCount x_outCount x_traceCount : Int32} {x_isInterfaceClass x_chainOf x_interfacesOf x_ancestorsOf x_homeOf x_formOf x_nameOf x_lengthOf x_opOf x_classOf x_numberOf x_sourceMethod x_sourceLine x_callLine x_ruleKind x_ruleClasses x_ruleNames x_newNumber x_familyOf x_sightOf x_frameRow x_frameLine x_frameHeld x_outInts x_traceMethod x_traceLine : Nat → Int32} {y_parent y_many y_isAbstract y_name y_length y_op y_first y_second : Nat → Int32} {C M R w : Nat} {a b c d : Int32}
/-- the lines of one LIVE method -/
theorem xk_l (T : tp_p C M R x_isInterfaceClass x_ancestorsOf x_interfacesOf x_chainOf y_parent y_many x_homeOf x_ruleKind x_ruleClasses x_ruleNames x_formOf x_nameOf x_lengthOf y_isAbstract y_name y_length x_opOf x_classOf x_numberOf x_sourceMethod x_sourceLine x_callLine y_op y_first y_second) (hC : x_classCount = nI C) (hM : x_methodCount = nI M) {post : SX → Prop} {J28 : Int32 → Int32 → Int32 → Int32 → Int32 → Int32 → Int32 → Int32 → Int32 → Int32 → Int32 → Int32 → Int32 → Int32 → Int32 → (Nat → Int32) → (Nat → Int32) → (Nat → Int32) → (Nat → Int32) → (Nat → Int32) → (Nat → Int32) → (Nat → Int32) → (Nat → Int32) → (Nat → Int32) → (Nat → Int32) → (Nat → Int32) → (Nat → Int32) → (Nat → Int32) → (Nat → Int32) → (Nat → Int32) → (Nat → Int32) → (Nat → Int32) → (Nat → Int32) → (Nat → Int32) → (Nat → Int32) → (Nat → Int32) → (Nat → Int32) → (Nat → Int32) → (Nat → Int32) → (Nat → Int32) → (Nat → Int32) → Prop} {x1 x3 x4 x5 x6 x7 : Int32} {r i L : Nat} (hr : r < 60) (hL : L ≤ 24)
    {a0 b0 c0 d0 : Int32} {J66 : Int32 → Int32 → Int32 → Int32 → Int32 → Int32 → Int32 → Int32 → Int32 → Int32 → Int32 → Int32 → Int32 → Int32 → (Nat → Int32) → (Nat → Int32) → (Nat → Int32) → (Nat → Int32) → (Nat → Int32) → (Nat → Int32) → (Nat → Int32) → (Nat → Int32) → (Nat → Int32) → (Nat → Int32) → (Nat → Int32) → (Nat → Int32) → (Nat → Int32) → (Nat → Int32) → (Nat → Int32) → (Nat → Int32) → (Nat → Int32) → (Nat → Int32) → (Nat → Int32) → (Nat → Int32) → (Nat → Int32) → (Nat → Int32) → (Nat → Int32) → (Nat → Int32) → (Nat → Int32) → (Nat → Int32) → Prop}
    (hcl : ∀ k, k < L → x_classOf (24 * r + k) = -1 ∨ ∃ q, q < C ∧ x_classOf (24 * r + k) = nI q)
    (J : ∀ S, cl_ok C M R x_ancestorsOf x_homeOf y_name x_ruleKind x_ruleClasses x_ruleNames (fun m => y_isAbstract m = 0) (ew_p C (fun m => y_isAbstract m = 0) x_ancestorsOf (fo_v M x_ancestorsOf x_chainOf x_homeOf y_name) x_lengthOf x_opOf x_classOf x_numberOf w) S → ∀ k, k < L → ex_p C (fun m => y_isAbstract m = 0) x_ancestorsOf (fo_v M x_ancestorsOf x_chainOf x_homeOf y_name) (x_opOf (24 * r + k)) (x_classOf (24 * r + k)) (x_numberOf (24 * r + k)) S)
    (K : ∀ a b c d, mi_ok C M R x_ancestorsOf x_homeOf y_name x_ruleKind x_ruleClasses x_ruleNames (fun m => y_isAbstract m = 0) (ew_p C (fun m => y_isAbstract m = 0) x_ancestorsOf (fo_v M x_ancestorsOf x_chainOf x_homeOf y_name) x_lengthOf x_opOf x_classOf x_numberOf w) a b c d → mk_gr a0 b0 c0 d0 a b c d →
      ((a = a0 ∧ b = b0 ∧ c = c0 ∧ d = d0) → ∀ k, k < L → ex_p C (fun m => y_isAbstract m = 0) x_ancestorsOf (fo_v M x_ancestorsOf x_chainOf x_homeOf y_name) (x_opOf (24 * r + k)) (x_classOf (24 * r + k)) (x_numberOf (24 * r + k)) (mk_s a0 b0 c0 d0)) → J66 (nI (i + 1)) x_classCount x_methodCount x_ruleCount x_isBuilt x_faultPlace a b c d x_depth x_stepCount x_outCount x_traceCount x_isInterfaceClass x_chainOf x_interfacesOf x_ancestorsOf x_homeOf x_formOf x_nameOf x_lengthOf x_opOf x_classOf x_numberOf x_sourceMethod x_sourceLine x_callLine x_ruleKind x_ruleClasses x_ruleNames x_newNumber x_familyOf x_sightOf x_frameRow x_frameLine x_frameHeld x_outInts x_traceMethod x_traceLine) :
    ∀ q k f a b c d, k + q = L → q < f → mi_ok C M R x_ancestorsOf x_homeOf y_name x_ruleKind x_ruleClasses x_ruleNames (fun m => y_isAbstract m = 0) (ew_p C (fun m => y_isAbstract m = 0) x_ancestorsOf (fo_v M x_ancestorsOf x_chainOf x_homeOf y_name) x_lengthOf x_opOf x_classOf x_numberOf w) a b c d → mk_gr a0 b0 c0 d0 a b c d →
      ((a = a0 ∧ b = b0 ∧ c = c0 ∧ d = d0) → ∀ j, j < k → ex_p C (fun m => y_isAbstract m = 0) x_ancestorsOf (fo_v M x_ancestorsOf x_chainOf x_homeOf y_name) (x_opOf (24 * r + j)) (x_classOf (24 * r + j)) (x_numberOf (24 * r + j)) (mk_s a0 b0 c0 d0)) →
      wX_markFrom_112 post J28 J66 x1 x3 x4 x5 x6 x7 (nI i) (nI r) (nI L) f (nI k) x_classCount x_methodCount x_ruleCount x_isBuilt x_faultPlace a b c d x_depth x_stepCount x_outCount x_traceCount x_isInterfaceClass x_chainOf x_interfacesOf x_ancestorsOf x_homeOf x_formOf x_nameOf x_lengthOf x_opOf x_classOf x_numberOf x_sourceMethod x_sourceLine x_callLine x_ruleKind x_ruleClasses x_ruleNames x_newNumber x_familyOf x_sightOf x_frameRow x_frameLine x_frameHeld x_outInts x_traceMethod x_traceLine := by
  intro q
  induction q with
  | zero =>
    intro k f a b c d e hf h g z
    obtain ⟨f, rfl⟩ : ∃ q, f = q + 1 := ⟨f - 1, by omega⟩
    have e : k = L := by omega
    subst e
    rw [wX_markFrom_112]
    exact br_t (nI_le (Nat.le_refl _) (by omega)) (nm_r (nI_1 i) (K a b c d h g z))
  | succ q ih =>
    intro k f a b c d e hf h g z
    obtain ⟨f, rfl⟩ : ∃ q, f = q + 1 := ⟨f - 1, by omega⟩
    rw [wX_markFrom_112]
    refine br_f (nI_ge (by omega) (by omega)) ?_
    rw [nI_a24]
    refine xi_v T hC hM (by omega) (hcl k (by omega)) h (fun S hS => J S hS k (by omega)) (fun a' b' c' d' m1 m2 m3 => ?_)
    refine nm_r (nI_1 k) (ih (k + 1) f a' b' c' d' (by omega) (by omega) m1 (mk_grt g m2) (fun s j hj => ?_))
    obtain ⟨s1, s2, s3, s4⟩ := s
    subst s1 s2 s3 s4
    rcases Nat.lt_or_ge j k with v | v
    · obtain ⟨t1, t2, t3, t4⟩ := mk_gre g m2
      exact z ⟨t1, t2, t3, t4⟩ j v
    · have : j = k := by omega
      subst this; exact m3
/-- a round over all methods -/
theorem xk_m (T : tp_p C M R x_isInterfaceClass x_ancestorsOf x_interfacesOf x_chainOf y_parent y_many x_homeOf x_ruleKind x_ruleClasses x_ruleNames x_formOf x_nameOf x_lengthOf y_isAbstract y_name y_length x_opOf x_classOf x_numberOf x_sourceMethod x_sourceLine x_callLine y_op y_first y_second) (hC : x_classCount = nI C) (hM : x_methodCount = nI M) (hw : w < 2) (hcl : ∀ m k, m < M → k < hq_t (x_lengthOf (30 * w + m)) → x_classOf (24 * (30 * w + m) + k) = -1 ∨ ∃ q, q < C ∧ x_classOf (24 * (30 * w + m) + k) = nI q) (hln : ∀ m, m < M → hq_t (x_lengthOf (30 * w + m)) ≤ 24 ∧ x_lengthOf (30 * w + m) = nI (hq_t (x_lengthOf (30 * w + m)))) {post : SX → Prop} {J28 : Int32 → Int32 → Int32 → Int32 → Int32 → Int32 → Int32 → Int32 → Int32 → Int32 → Int32 → Int32 → Int32 → Int32 → Int32 → (Nat → Int32) → (Nat → Int32) → (Nat → Int32) → (Nat → Int32) → (Nat → Int32) → (Nat → Int32) → (Nat → Int32) → (Nat → Int32) → (Nat → Int32) → (Nat → Int32) → (Nat → Int32) → (Nat → Int32) → (Nat → Int32) → (Nat → Int32) → (Nat → Int32) → (Nat → Int32) → (Nat → Int32) → (Nat → Int32) → (Nat → Int32) → (Nat → Int32) → (Nat → Int32) → (Nat → Int32) → (Nat → Int32) → (Nat → Int32) → (Nat → Int32) → (Nat → Int32) → Prop} {r : Nat}
    {a0 b0 c0 d0 : Int32}
    (K0 : ∀ a b c d, mi_ok C M R x_ancestorsOf x_homeOf y_name x_ruleKind x_ruleClasses x_ruleNames (fun m => y_isAbstract m = 0) (ew_p C (fun m => y_isAbstract m = 0) x_ancestorsOf (fo_v M x_ancestorsOf x_chainOf x_homeOf y_name) x_lengthOf x_opOf x_classOf x_numberOf w) a b c d → a = a0 → b = b0 → c = c0 → d = d0 → (∀ m, m < M → bt d0 m = true → ew_p C (fun m => y_isAbstract m = 0) x_ancestorsOf (fo_v M x_ancestorsOf x_chainOf x_homeOf y_name) x_lengthOf x_opOf x_classOf x_numberOf w m (mk_s a0 b0 c0 d0)) → J28 0 (nI (r + 1)) x_classCount x_methodCount x_ruleCount x_isBuilt x_faultPlace a b c d x_depth x_stepCount x_outCount x_traceCount x_isInterfaceClass x_chainOf x_interfacesOf x_ancestorsOf x_homeOf x_formOf x_nameOf x_lengthOf x_opOf x_classOf x_numberOf x_sourceMethod x_sourceLine x_callLine x_ruleKind x_ruleClasses x_ruleNames x_newNumber x_familyOf x_sightOf x_frameRow x_frameLine x_frameHeld x_outInts x_traceMethod x_traceLine)
    (K1 : ∀ a b c d, mi_ok C M R x_ancestorsOf x_homeOf y_name x_ruleKind x_ruleClasses x_ruleNames (fun m => y_isAbstract m = 0) (ew_p C (fun m => y_isAbstract m = 0) x_ancestorsOf (fo_v M x_ancestorsOf x_chainOf x_homeOf y_name) x_lengthOf x_opOf x_classOf x_numberOf w) a b c d → mk_gr a0 b0 c0 d0 a b c d → ¬ (a0 = a ∧ b0 = b ∧ c0 = c ∧ d0 = d) → J28 1 (nI (r + 1)) x_classCount x_methodCount x_ruleCount x_isBuilt x_faultPlace a b c d x_depth x_stepCount x_outCount x_traceCount x_isInterfaceClass x_chainOf x_interfacesOf x_ancestorsOf x_homeOf x_formOf x_nameOf x_lengthOf x_opOf x_classOf x_numberOf x_sourceMethod x_sourceLine x_callLine x_ruleKind x_ruleClasses x_ruleNames x_newNumber x_familyOf x_sightOf x_frameRow x_frameLine x_frameHeld x_outInts x_traceMethod x_traceLine) :
    ∀ q i f a b c d, i + q = M → q < f → mi_ok C M R x_ancestorsOf x_homeOf y_name x_ruleKind x_ruleClasses x_ruleNames (fun m => y_isAbstract m = 0) (ew_p C (fun m => y_isAbstract m = 0) x_ancestorsOf (fo_v M x_ancestorsOf x_chainOf x_homeOf y_name) x_lengthOf x_opOf x_classOf x_numberOf w) a b c d → mk_gr a0 b0 c0 d0 a b c d →
      ((a = a0 ∧ b = b0 ∧ c = c0 ∧ d = d0) → ∀ m, m < i → bt d0 m = true → ew_p C (fun m => y_isAbstract m = 0) x_ancestorsOf (fo_v M x_ancestorsOf x_chainOf x_homeOf y_name) x_lengthOf x_opOf x_classOf x_numberOf w m (mk_s a0 b0 c0 d0)) →
      wX_markFrom_66 post J28 (nI w) (nI r) a0 b0 c0 d0 f (nI i) x_classCount x_methodCount x_ruleCount x_isBuilt x_faultPlace a b c d x_depth x_stepCount x_outCount x_traceCount x_isInterfaceClass x_chainOf x_interfacesOf x_ancestorsOf x_homeOf x_formOf x_nameOf x_lengthOf x_opOf x_classOf x_numberOf x_sourceMethod x_sourceLine x_callLine x_ruleKind x_ruleClasses x_ruleNames x_newNumber x_familyOf x_sightOf x_frameRow x_frameLine x_frameHeld x_outInts x_traceMethod x_traceLine := by
  have h30 := T.2.2.1.1
  intro q
  induction q with
  | zero =>
    intro i f a b c d e hf h g z
    obtain ⟨f, rfl⟩ : ∃ q, f = q + 1 := ⟨f - 1, by omega⟩
    have e : i = M := by omega
    subst e
    rw [wX_markFrom_66]
    refine br_t (by rw [hM]; exact nI_le (Nat.le_refl _) (by omega)) ?_
    refine br_c (fun ea => ?_) (fun ea => nm_r (nI_1 r) (K1 a b c d h g (fun q => ea q.1)))
    refine br_c (fun eb => ?_) (fun eb => nm_r (nI_1 r) (K1 a b c d h g (fun q => eb q.2.1)))
    refine br_c (fun ec => ?_) (fun ec => nm_r (nI_1 r) (K1 a b c d h g (fun q => ec q.2.2.1)))
    refine br_c (fun ed => ?_) (fun ed => nm_r (nI_1 r) (K1 a b c d h g (fun q => ed q.2.2.2)))
    exact nm_r (nI_1 r) (K0 a b c d h ea.symm eb.symm ec.symm ed.symm (z ⟨ea.symm, eb.symm, ec.symm, ed.symm⟩))
  | succ q ih =>
    intro i f a b c d e hf h g z
    obtain ⟨f, rfl⟩ : ∃ q, f = q + 1 := ⟨f - 1, by omega⟩
    obtain ⟨l1, l2⟩ := hln i (by omega)
    rw [wX_markFrom_66]
    refine br_f (by rw [hM]; exact nI_ge (by omega) (by omega)) (nm_r (nI_a30 w i) (xh_b (by omega) (fun y => ⟨vp_in_nI (by omega) (by decide), ?_⟩) (fun y => ?_)))
    · rw [nI_c (by omega)]
      refine nm_r l2 ⟨hq_t (x_lengthOf (30 * w + i)) + 1, ?_⟩
      refine xk_l T hC hM (by omega) l1 (fun k hk => hcl i k (by omega) hk) (fun S hS k hk => hS.2.2.2 i (by omega) (h.1 S hS 3 i y) k hk) (fun a' b' c' d' m1 m2 m3 => ?_)
        (hq_t (x_lengthOf (30 * w + i))) 0 _ a b c d (by omega) (by omega) h (mk_gr0 a b c d) (fun _ j hj => by omega)
      refine ih (i + 1) f a' b' c' d' (by omega) (by omega) m1 (mk_grt g m2) (fun s m hm y => ?_)
      obtain ⟨s1, s2, s3, s4⟩ := s
      subst s1 s2 s3 s4
      obtain ⟨t1, t2, t3, t4⟩ := mk_gre g m2
      rcases Nat.lt_or_ge m i with v | v
      · exact z ⟨t1, t2, t3, t4⟩ m v y
      · have : m = i := by omega
        subst this
        subst t1 t2 t3 t4
        exact m3 ⟨rfl, rfl, rfl, rfl⟩
    · refine ⟨1, ?_⟩
      refine xk_l T hC hM (L := 0) (by omega) (by omega) (fun k hk => by omega) (fun S hS k hk => by omega) (fun a' b' c' d' m1 m2 m3 => ?_) 0 0 1 a b c d (by omega) (by omega) h (mk_gr0 a b c d) (fun _ j hj => by omega)
      refine ih (i + 1) f a' b' c' d' (by omega) (by omega) m1 (mk_grt g m2) (fun s m hm x => ?_)
      obtain ⟨s1, s2, s3, s4⟩ := s
      subst s1 s2 s3 s4
      obtain ⟨t1, t2, t3, t4⟩ := mk_gre g m2
      rcases Nat.lt_or_ge m i with v | v
      · exact z ⟨t1, t2, t3, t4⟩ m v x
      · have : m = i := by omega
        subst this
        subst t1 t2 t3 t4
        exact absurd x y
/-- X's marking ends with the least closed sets -/
theorem xk_v (T : tp_p C M R x_isInterfaceClass x_ancestorsOf x_interfacesOf x_chainOf y_parent y_many x_homeOf x_ruleKind x_ruleClasses x_ruleNames x_formOf x_nameOf x_lengthOf y_isAbstract y_name y_length x_opOf x_classOf x_numberOf x_sourceMethod x_sourceLine x_callLine y_op y_first y_second) (hC : x_classCount = nI C) (hM : x_methodCount = nI M) (hR : x_ruleCount = nI R) (hw : w < 2) (hcl : ∀ m k, m < M → k < hq_t (x_lengthOf (30 * w + m)) → x_classOf (24 * (30 * w + m) + k) = -1 ∨ ∃ q, q < C ∧ x_classOf (24 * (30 * w + m) + k) = nI q) (hln : ∀ m, m < M → hq_t (x_lengthOf (30 * w + m)) ≤ 24 ∧ x_lengthOf (30 * w + m) = nI (hq_t (x_lengthOf (30 * w + m)))) {post : SX → Prop}
    (K : ∀ a b c d, mi_ok C M R x_ancestorsOf x_homeOf y_name x_ruleKind x_ruleClasses x_ruleNames (fun m => y_isAbstract m = 0) (ew_p C (fun m => y_isAbstract m = 0) x_ancestorsOf (fo_v M x_ancestorsOf x_chainOf x_homeOf y_name) x_lengthOf x_opOf x_classOf x_numberOf w) a b c d → cl_ok C M R x_ancestorsOf x_homeOf y_name x_ruleKind x_ruleClasses x_ruleNames (fun m => y_isAbstract m = 0) (ew_p C (fun m => y_isAbstract m = 0) x_ancestorsOf (fo_v M x_ancestorsOf x_chainOf x_homeOf y_name) x_lengthOf x_opOf x_classOf x_numberOf w) (mk_s a b c d) → post (x_classCount, x_methodCount, x_ruleCount, x_isBuilt, x_faultPlace, a, b, c, d, x_depth, x_stepCount, x_outCount, x_traceCount, x_isInterfaceClass, x_chainOf, x_interfacesOf, x_ancestorsOf, x_homeOf, x_formOf, x_nameOf, x_lengthOf, x_opOf, x_classOf, x_numberOf, x_sourceMethod, x_sourceLine, x_callLine, x_ruleKind, x_ruleClasses, x_ruleNames, x_newNumber, x_familyOf, x_sightOf, x_frameRow, x_frameLine, x_frameHeld, x_outInts, x_traceMethod, x_traceLine)) : wpX_markFrom post (x_classCount, x_methodCount, x_ruleCount, x_isBuilt, x_faultPlace, x_namedClasses, x_madeClasses, x_namedMethods, x_liveMethods, x_depth, x_stepCount, x_outCount, x_traceCount, x_isInterfaceClass, x_chainOf, x_interfacesOf, x_ancestorsOf, x_homeOf, x_formOf, x_nameOf, x_lengthOf, x_opOf, x_classOf, x_numberOf, x_sourceMethod, x_sourceLine, x_callLine, x_ruleKind, x_ruleClasses, x_ruleNames, x_newNumber, x_familyOf, x_sightOf, x_frameRow, x_frameLine, x_frameHeld, x_outInts, x_traceMethod, x_traceLine) (nI w) := by
  have fin : ∀ a b c d, mi_ok C M R x_ancestorsOf x_homeOf y_name x_ruleKind x_ruleClasses x_ruleNames (fun m => y_isAbstract m = 0) (ew_p C (fun m => y_isAbstract m = 0) x_ancestorsOf (fo_v M x_ancestorsOf x_chainOf x_homeOf y_name) x_lengthOf x_opOf x_classOf x_numberOf w) a b c d → (∀ r, r < R → x_ruleKind r = 0 → rt_p C M x_homeOf y_name x_ruleClasses x_ruleNames (fun m => y_isAbstract m = 0) r a c d) → (∀ m, m < M → bt d m = true → ew_p C (fun m => y_isAbstract m = 0) x_ancestorsOf (fo_v M x_ancestorsOf x_chainOf x_homeOf y_name) x_lengthOf x_opOf x_classOf x_numberOf w m (mk_s a b c d)) → cl_ok C M R x_ancestorsOf x_homeOf y_name x_ruleKind x_ruleClasses x_ruleNames (fun m => y_isAbstract m = 0) (ew_p C (fun m => y_isAbstract m = 0) x_ancestorsOf (fo_v M x_ancestorsOf x_chainOf x_homeOf y_name) x_lengthOf x_opOf x_classOf x_numberOf w) (mk_s a b c d) := fun a b c d h t z =>
    ⟨t, fun m _ y => h.2.2.2.2.2.2 m y, fun k _ y i x => h.2.2.2.2.2.1 k i y x, z⟩
  have lo : ∀ q r f a b c d, pc_4 a b c d + q = 128 → q + 1 < f → r ≤ pc_4 a b c d → mi_ok C M R x_ancestorsOf x_homeOf y_name x_ruleKind x_ruleClasses x_ruleNames (fun m => y_isAbstract m = 0) (ew_p C (fun m => y_isAbstract m = 0) x_ancestorsOf (fo_v M x_ancestorsOf x_chainOf x_homeOf y_name) x_lengthOf x_opOf x_classOf x_numberOf w) a b c d → (∀ r, r < R → x_ruleKind r = 0 → rt_p C M x_homeOf y_name x_ruleClasses x_ruleNames (fun m => y_isAbstract m = 0) r a c d) → wX_markFrom_28 post (nI w) f 1 (nI r) x_classCount x_methodCount x_ruleCount x_isBuilt x_faultPlace a b c d x_depth x_stepCount x_outCount x_traceCount x_isInterfaceClass x_chainOf x_interfacesOf x_ancestorsOf x_homeOf x_formOf x_nameOf x_lengthOf x_opOf x_classOf x_numberOf x_sourceMethod x_sourceLine x_callLine x_ruleKind x_ruleClasses x_ruleNames x_newNumber x_familyOf x_sightOf x_frameRow x_frameLine x_frameHeld x_outInts x_traceMethod x_traceLine := by
    intro q
    induction q using Nat.strongRecOn with
    | ind q ih =>
      intro r f a b c d e hf hr h t
      obtain ⟨f, rfl⟩ : ∃ q, f = q + 1 := ⟨f - 1, by omega⟩
      rw [wX_markFrom_28]
      refine br_f (nI_ge (b := 1000) (by omega) (by decide)) (br_f (by decide) ⟨M + 1, ?_⟩)
      refine xk_m T hC hM hw hcl hln (fun a' b' c' d' m1 s1 s2 s3 s4 m2 => ?_) (fun a' b' c' d' m1 m2 m3 => ?_) M 0 (M + 1) a b c d (by omega) (by omega) h (mk_gr0 a b c d) (fun _ m hm => by omega)
      · subst s1 s2 s3 s4
        obtain ⟨f, rfl⟩ : ∃ q, f = q + 1 := ⟨f - 1, by omega⟩
        rw [wX_markFrom_28]
        have := K a' b' c' d' m1 (fin a' b' c' d' m1 t m2)
        exact br_c (fun _ => this) (fun _ => br_t rfl this)
      · have lt := pc_4l m2.1 m2.2.1 m2.2.2.1 m2.2.2.2 m3
        have mx := pc_4m a' b' c' d'
        exact ih (128 - pc_4 a' b' c' d') (by omega) (r + 1) f a' b' c' d' (by omega) (by omega) (by omega) m1 (fun r hr y => rt_g (t r hr y) m2)
  unfold wpX_markFrom
  dsimp only
  unfold wpX_markRoots
  dsimp only
  refine ⟨R + 1, ?_⟩
  refine xr_l T hC hM hR (E := ew_p C (fun m => y_isAbstract m = 0) x_ancestorsOf (fo_v M x_ancestorsOf x_chainOf x_homeOf y_name) x_lengthOf x_opOf x_classOf x_numberOf w) (fun a b c d h t => ?_) R 0 (R + 1) 0 0 0 0 (by omega) (by omega) mi_0 (fun r hr => by omega)
  have mx := pc_4m a b c d
  dsimp only
  exact ⟨130, lo (128 - pc_4 a b c d) 0 130 a b c d (by omega) (by omega) (by omega) h t⟩
end
