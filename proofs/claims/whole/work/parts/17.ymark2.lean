/-! ===== Y's rounds of marking ===== -/
section
variable {y_classes y_methods y_rules y_place y_named y_made y_namedMethods y_live y_built y_depth y_steps y_outs y_ending : Int32} {y_isInterface y_isAbstract y_parent y_ancestors y_own y_many y_home y_name y_length y_op y_first y_second y_ruleKind y_ruleClasses y_ruleNames y_inlined y_number y_newName y_family y_vMethod y_vLine y_vHeld y_put : Nat → Int32} {chn xform xname xlen xop xcl xnu xsm xsl xca : Nat → Int32} {C M R : Nat} {a b c d : Int32}
theorem yl_c (T : tp_p C M R y_isInterface y_ancestors y_own chn y_parent y_many y_home y_ruleKind y_ruleClasses y_ruleNames xform xname xlen y_isAbstract y_name y_length xop xcl xnu xsm xsl xca y_op y_first y_second) (NF : ff_v C M y_isInterface y_ancestors chn y_home y_isAbstract y_name y_length y_op y_first y_second = none) {m k : Nat} (hm : m < M) (hk : k < hq_t (y_length m)) :
    ∃ o, o < 6 ∧ y_op (6 * m + k) = nI o ∧ (1 ≤ o → o ≤ 4 → ∃ q, q < C ∧ y_first (6 * m + k) = nI q) ∧ (o = 2 ∨ o = 3 → ∃ g, fo_v M y_ancestors chn y_home y_name (hq_t (y_first (6 * m + k))) (y_second (6 * m + k)) = some g) := by
  obtain ⟨l1, l6⟩ := ty_len T hm
  obtain ⟨o, o6, _, e2, e3, _⟩ := T.2.2.2.2.2.1 m k hm hk
  have z := ff_n NF hm (by omega) hk
  refine ⟨o, o6, e2, fun h1 h4 => ?_, fun h => ?_⟩
  · obtain ⟨q, q10, _, f2⟩ := e3 ⟨h1, h4⟩
    have no : ¬ (y_op (6 * m + k) = 0 ∨ y_op (6 * m + k) = 5) := by
      rw [e2]
      rintro (y | y)
      · have := (nI_eq (a := o) (b := 0) (by omega) (by omega)).mp y; omega
      · have := (nI_eq (a := o) (b := 5) (by omega) (by omega)).mp y; omega
    have := fl_c z no
    rw [f2, hq_e (by omega)] at this
    exact ⟨q, this, f2⟩
  · have o23 : y_op (6 * m + k) = 2 ∨ y_op (6 * m + k) = 3 := by
      rw [e2]
      rcases h with h | h
      · subst h; exact Or.inl rfl
      · subst h; exact Or.inr rfl
    obtain ⟨g, eg, _⟩ := fl_f z o23
    exact ⟨g, eg⟩
theorem y2_l (T : tp_p C M R y_isInterface y_ancestors y_own chn y_parent y_many y_home y_ruleKind y_ruleClasses y_ruleNames xform xname xlen y_isAbstract y_name y_length xop xcl xnu xsm xsl xca y_op y_first y_second) (NF : ff_v C M y_isInterface y_ancestors chn y_home y_isAbstract y_name y_length y_op y_first y_second = none) (hC : y_classes = nI C) (hM : y_methods = nI M) {post : SY → Prop} {J64 : Int32 → Int32 → Int32 → Int32 → Int32 → Int32 → Int32 → Int32 → Int32 → Int32 → Int32 → Int32 → Int32 → Int32 → Int32 → Int32 → Int32 → (Nat → Int32) → (Nat → Int32) → (Nat → Int32) → (Nat → Int32) → (Nat → Int32) → (Nat → Int32) → (Nat → Int32) → (Nat → Int32) → (Nat → Int32) → (Nat → Int32) → (Nat → Int32) → (Nat → Int32) → (Nat → Int32) → (Nat → Int32) → (Nat → Int32) → (Nat → Int32) → (Nat → Int32) → (Nat → Int32) → (Nat → Int32) → (Nat → Int32) → (Nat → Int32) → (Nat → Int32) → (Nat → Int32) → Prop} {a0 b0 c0 d0 : Int32} (P : Int32 → Prop) (hP : ∀ a a', ss_le a a' → P a → P a')
    (K : ∀ a b c d, my_p (cl_ok C M R y_ancestors y_home y_name y_ruleKind y_ruleClasses y_ruleNames (fun m => y_isAbstract m = 0) (ey_p C (fun m => y_isAbstract m = 0) y_ancestors (fo_v M y_ancestors chn y_home y_name) y_length y_op y_first y_second y_inlined)) a b c d → mk_gr a0 b0 c0 d0 a b c d → P a → ((a = a0 ∧ b = b0 ∧ c = c0 ∧ d = d0) → ∀ j, j < 6 * M → bt d0 (j / 6) = true → j % 6 < hq_t (y_length (j / 6)) → ef_p C y_ancestors (fun m => y_isAbstract m = 0) (fo_v M y_ancestors chn y_home y_name) (y_op j) (y_first j) (y_second j) (¬ y_inlined j < 0) (mk_s a0 b0 c0 d0)) → J64 a0 b0 c0 d0 y_classes y_methods y_rules y_place a b c d y_built y_depth y_steps y_outs y_ending y_isInterface y_isAbstract y_parent y_ancestors y_own y_many y_home y_name y_length y_op y_first y_second y_ruleKind y_ruleClasses y_ruleNames y_inlined y_number y_newName y_family y_vMethod y_vLine y_vHeld y_put) :
    ∀ q i f a b c d, i + q = 6 * M → q < f → my_p (cl_ok C M R y_ancestors y_home y_name y_ruleKind y_ruleClasses y_ruleNames (fun m => y_isAbstract m = 0) (ey_p C (fun m => y_isAbstract m = 0) y_ancestors (fo_v M y_ancestors chn y_home y_name) y_length y_op y_first y_second y_inlined)) a b c d → mk_gr a0 b0 c0 d0 a b c d → P a →
      ((a = a0 ∧ b = b0 ∧ c = c0 ∧ d = d0) → ∀ j, j < i → bt d0 (j / 6) = true → j % 6 < hq_t (y_length (j / 6)) → ef_p C y_ancestors (fun m => y_isAbstract m = 0) (fo_v M y_ancestors chn y_home y_name) (y_op j) (y_first j) (y_second j) (¬ y_inlined j < 0) (mk_s a0 b0 c0 d0)) →
      wY_mark_215 post J64 a0 b0 c0 d0 f (nI i) y_classes y_methods y_rules y_place a b c d y_built y_depth y_steps y_outs y_ending y_isInterface y_isAbstract y_parent y_ancestors y_own y_many y_home y_name y_length y_op y_first y_second y_ruleKind y_ruleClasses y_ruleNames y_inlined y_number y_newName y_family y_vMethod y_vLine y_vHeld y_put := by
  have h30 := T.2.2.1.1
  intro q
  induction q with
  | zero =>
    intro i f a b c d e hf h g p z
    obtain ⟨f, rfl⟩ : ∃ q, f = q + 1 := ⟨f - 1, by omega⟩
    have e : i = 6 * M := by omega
    subst e
    rw [wY_mark_215]
    exact br_t (by rw [hM, nI_m6]; exact nI_le (Nat.le_refl _) (by omega)) (K a b c d h g p z)
  | succ q ih =>
    intro i f a b c d e hf h g p z
    obtain ⟨f, rfl⟩ : ∃ q, f = q + 1 := ⟨f - 1, by omega⟩
    obtain ⟨m, k, k6, rfl⟩ : ∃ m k, k < 6 ∧ i = 6 * m + k := ⟨i / 6, i % 6, by omega, by omega⟩
    have hm : m < M := by omega
    have e1 : (6 * m + k) / 6 = m := by omega
    have e2 : (6 * m + k) % 6 = k := by omega
    obtain ⟨l1, l6⟩ := ty_len T hm
    have nx : ¬ (bt d m = true ∧ k < hq_t (y_length m)) → wY_mark_215 post J64 a0 b0 c0 d0 f (nI (6 * m + k + 1)) y_classes y_methods y_rules y_place a b c d y_built y_depth y_steps y_outs y_ending y_isInterface y_isAbstract y_parent y_ancestors y_own y_many y_home y_name y_length y_op y_first y_second y_ruleKind y_ruleClasses y_ruleNames y_inlined y_number y_newName y_family y_vMethod y_vLine y_vHeld y_put := fun y =>
      ih _ f a b c d (by omega) (by omega) h g p (fun s j hj x w => by
        rcases Nat.lt_or_ge j (6 * m + k) with v | v
        · exact z s j v x w
        · have : j = 6 * m + k := by omega
          subst this
          rw [e1] at x w
          rw [e2] at w
          rw [s.2.2.2] at y
          exact absurd ⟨x, w⟩ y)
    rw [wY_mark_215]
    refine br_f (by rw [hM, nI_m6]; exact nI_ge (by omega) (by omega)) ⟨by decide, ?_⟩
    rw [nI_r6 (by omega), nI_d6 (by omega), e1, e2, nI_c (by omega), l1]
    refine yb_b (by omega) (fun y => ⟨by decide, by decide, vp_in_nI (by omega) (by decide), pk_le (hq_t (y_length m)) k (fun x => nm_r (nI_1 _) (nx (fun q => by omega))) (fun kl => ?_)⟩) (fun y => nm_r (nI_1 _) (nx (fun q => y q.1)))
    obtain ⟨o, o6, ho, g1, g2⟩ := yl_c T NF hm kl
    refine yl_v T hC hM (by omega) ho o6 g1 g2 h (fun S hS => hS.2.2.2 m hm (h S hS 3 m y) k kl) (fun a' b' c' d' m1 m2 m3 => ?_)
    refine nm_r (nI_1 _) (ih _ f a' b' c' d' (by omega) (by omega) m1 (mk_grt g m2) (hP a a' m2.1 p) (fun s j hj x w => ?_))
    obtain ⟨s1, s2, s3, s4⟩ := s
    subst s1 s2 s3 s4
    rcases Nat.lt_or_ge j (6 * m + k) with v | v
    · exact z (mk_gre g m2) j v x w
    · have : j = 6 * m + k := by omega
      subst this; exact m3
theorem y1_c (T : tp_p C M R y_isInterface y_ancestors y_own chn y_parent y_many y_home y_ruleKind y_ruleClasses y_ruleNames xform xname xlen y_isAbstract y_name y_length xop xcl xnu xsm xsl xca y_op y_first y_second) (NF : ff_v C M y_isInterface y_ancestors chn y_home y_isAbstract y_name y_length y_op y_first y_second = none) (hC : y_classes = nI C) (hM : y_methods = nI M) {post : SY → Prop} {J64 : Int32 → Int32 → Int32 → Int32 → Int32 → Int32 → Int32 → Int32 → Int32 → Int32 → Int32 → Int32 → Int32 → Int32 → Int32 → Int32 → Int32 → (Nat → Int32) → (Nat → Int32) → (Nat → Int32) → (Nat → Int32) → (Nat → Int32) → (Nat → Int32) → (Nat → Int32) → (Nat → Int32) → (Nat → Int32) → (Nat → Int32) → (Nat → Int32) → (Nat → Int32) → (Nat → Int32) → (Nat → Int32) → (Nat → Int32) → (Nat → Int32) → (Nat → Int32) → (Nat → Int32) → (Nat → Int32) → (Nat → Int32) → (Nat → Int32) → (Nat → Int32) → (Nat → Int32) → Prop} {a0 : Int32}
    (K : ∀ a' b' c' d', my_p (cl_ok C M R y_ancestors y_home y_name y_ruleKind y_ruleClasses y_ruleNames (fun m => y_isAbstract m = 0) (ey_p C (fun m => y_isAbstract m = 0) y_ancestors (fo_v M y_ancestors chn y_home y_name) y_length y_op y_first y_second y_inlined)) a' b' c' d' → mk_gr a0 b c d a' b' c' d' → (fun a => (∀ m, m < M → bt c m = true → bt a (hq_t (y_home m)) = true) ∧ ∀ k, k < C → bt a0 k = true → ∀ j, bt (y_ancestors k) j = true → bt a j = true) a' →
      ((a' = a0 ∧ b' = b ∧ c' = c ∧ d' = d) → ∀ j, j < 6 * M → bt d (j / 6) = true → j % 6 < hq_t (y_length (j / 6)) → ef_p C y_ancestors (fun m => y_isAbstract m = 0) (fo_v M y_ancestors chn y_home y_name) (y_op j) (y_first j) (y_second j) (¬ y_inlined j < 0) (mk_s a0 b c d)) → J64 a0 b c d y_classes y_methods y_rules y_place a' b' c' d' y_built y_depth y_steps y_outs y_ending y_isInterface y_isAbstract y_parent y_ancestors y_own y_many y_home y_name y_length y_op y_first y_second y_ruleKind y_ruleClasses y_ruleNames y_inlined y_number y_newName y_family y_vMethod y_vLine y_vHeld y_put) :
    ∀ q i f a, i + q = C → q < f → my_p (cl_ok C M R y_ancestors y_home y_name y_ruleKind y_ruleClasses y_ruleNames (fun m => y_isAbstract m = 0) (ey_p C (fun m => y_isAbstract m = 0) y_ancestors (fo_v M y_ancestors chn y_home y_name) y_length y_op y_first y_second y_inlined)) a b c d → mk_gr a0 b c d a b c d → (∀ m, m < M → bt c m = true → bt a (hq_t (y_home m)) = true) → (∀ k, k < i → bt a0 k = true → ∀ j, bt (y_ancestors k) j = true → bt a j = true) →
      wY_mark_169 post J64 a0 b c d y_classes y_methods y_rules y_place b c d y_built y_depth y_steps y_outs y_ending y_isInterface y_isAbstract y_parent y_ancestors y_own y_many y_home y_name y_length y_op y_first y_second y_ruleKind y_ruleClasses y_ruleNames y_inlined y_number y_newName y_family y_vMethod y_vLine y_vHeld y_put f (nI i) a := by
  have h10 := T.1.1
  intro q
  induction q with
  | zero =>
    intro i f a e hf h g p z
    obtain ⟨f, rfl⟩ : ∃ q, f = q + 1 := ⟨f - 1, by omega⟩
    have e : i = C := by omega
    subst e
    rw [wY_mark_169]
    refine br_t (by rw [hC]; exact nI_le (Nat.le_refl _) (by omega)) ⟨6 * M + 1, ?_⟩
    exact y2_l T NF hC hM _ (fun a a' s p => ⟨fun m hm x => s _ (p.1 m hm x), fun k hk x j w => s _ (p.2 k hk x j w)⟩) K (6 * M) 0 _ a b c d (by omega) (by omega) h g ⟨p, z⟩ (fun _ j hj => by omega)
  | succ q ih =>
    intro i f a e hf h g p z
    obtain ⟨f, rfl⟩ : ∃ q, f = q + 1 := ⟨f - 1, by omega⟩
    rw [wY_mark_169]
    refine br_f (by rw [hC]; exact nI_ge (by omega) (by omega)) (yb_b (by omega) (fun y => ⟨vp_in_nI (by omega) (by decide), ?_⟩) (fun y => ?_))
    · rw [nI_c (by omega)]
      refine nm_e (nm_r (nI_1 i) (ih (i + 1) f _ (by omega) (by omega) (fun S hS => mk_a0 (h S hS) (fun j w => hS.2.2.1 i (by omega) (h S hS 0 i y) j w)) (mk_grt g ⟨ss_ol a _, ss_rf b, ss_rf c, ss_rf d⟩)
        (fun m hm x => ss_ol a _ _ (p m hm x)) (fun k hk x j w => ?_)))
      rcases Nat.lt_or_ge k i with v | v
      · exact ss_ol a _ _ (z k v x j w)
      · have : k = i := by omega
        subst this; exact ss_or a _ _ w
    · refine nm_r (nI_1 i) (ih (i + 1) f a (by omega) (by omega) h g p (fun k hk x j w => ?_))
      rcases Nat.lt_or_ge k i with v | v
      · exact z k v x j w
      · have : k = i := by omega
        subst this; exact absurd (g.1 _ x) y
theorem y1_m (T : tp_p C M R y_isInterface y_ancestors y_own chn y_parent y_many y_home y_ruleKind y_ruleClasses y_ruleNames xform xname xlen y_isAbstract y_name y_length xop xcl xnu xsm xsl xca y_op y_first y_second) (NF : ff_v C M y_isInterface y_ancestors chn y_home y_isAbstract y_name y_length y_op y_first y_second = none) (hC : y_classes = nI C) (hM : y_methods = nI M) {post : SY → Prop} {J64 : Int32 → Int32 → Int32 → Int32 → Int32 → Int32 → Int32 → Int32 → Int32 → Int32 → Int32 → Int32 → Int32 → Int32 → Int32 → Int32 → Int32 → (Nat → Int32) → (Nat → Int32) → (Nat → Int32) → (Nat → Int32) → (Nat → Int32) → (Nat → Int32) → (Nat → Int32) → (Nat → Int32) → (Nat → Int32) → (Nat → Int32) → (Nat → Int32) → (Nat → Int32) → (Nat → Int32) → (Nat → Int32) → (Nat → Int32) → (Nat → Int32) → (Nat → Int32) → (Nat → Int32) → (Nat → Int32) → (Nat → Int32) → (Nat → Int32) → (Nat → Int32) → (Nat → Int32) → Prop} {a0 : Int32}
    (K : ∀ a' b' c' d', my_p (cl_ok C M R y_ancestors y_home y_name y_ruleKind y_ruleClasses y_ruleNames (fun m => y_isAbstract m = 0) (ey_p C (fun m => y_isAbstract m = 0) y_ancestors (fo_v M y_ancestors chn y_home y_name) y_length y_op y_first y_second y_inlined)) a' b' c' d' → mk_gr a0 b c d a' b' c' d' → (fun a => (∀ m, m < M → bt c m = true → bt a (hq_t (y_home m)) = true) ∧ ∀ k, k < C → bt a0 k = true → ∀ j, bt (y_ancestors k) j = true → bt a j = true) a' →
      ((a' = a0 ∧ b' = b ∧ c' = c ∧ d' = d) → ∀ j, j < 6 * M → bt d (j / 6) = true → j % 6 < hq_t (y_length (j / 6)) → ef_p C y_ancestors (fun m => y_isAbstract m = 0) (fo_v M y_ancestors chn y_home y_name) (y_op j) (y_first j) (y_second j) (¬ y_inlined j < 0) (mk_s a0 b c d)) → J64 a0 b c d y_classes y_methods y_rules y_place a' b' c' d' y_built y_depth y_steps y_outs y_ending y_isInterface y_isAbstract y_parent y_ancestors y_own y_many y_home y_name y_length y_op y_first y_second y_ruleKind y_ruleClasses y_ruleNames y_inlined y_number y_newName y_family y_vMethod y_vLine y_vHeld y_put) :
    ∀ q i f a, i + q = M → q < f → my_p (cl_ok C M R y_ancestors y_home y_name y_ruleKind y_ruleClasses y_ruleNames (fun m => y_isAbstract m = 0) (ey_p C (fun m => y_isAbstract m = 0) y_ancestors (fo_v M y_ancestors chn y_home y_name) y_length y_op y_first y_second y_inlined)) a b c d → mk_gr a0 b c d a b c d → (∀ m, m < i → bt c m = true → bt a (hq_t (y_home m)) = true) →
      wY_mark_121 post J64 a0 b c d y_classes y_methods y_rules y_place b c d y_built y_depth y_steps y_outs y_ending y_isInterface y_isAbstract y_parent y_ancestors y_own y_many y_home y_name y_length y_op y_first y_second y_ruleKind y_ruleClasses y_ruleNames y_inlined y_number y_newName y_family y_vMethod y_vLine y_vHeld y_put f (nI i) a := by
  have h30 := T.2.2.1.1
  have h10 := T.1.1
  intro q
  induction q with
  | zero =>
    intro i f a e hf h g p
    obtain ⟨f, rfl⟩ : ∃ q, f = q + 1 := ⟨f - 1, by omega⟩
    have e : i = M := by omega
    subst e
    rw [wY_mark_121]
    refine br_t (by rw [hM]; exact nI_le (Nat.le_refl _) (by omega)) ⟨C + 1, ?_⟩
    exact y1_c T NF hC hM K C 0 _ a (by omega) (by omega) h g p (fun k hk => by omega)
  | succ q ih =>
    intro i f a e hf h g p
    obtain ⟨f, rfl⟩ : ∃ q, f = q + 1 := ⟨f - 1, by omega⟩
    obtain ⟨o1, o2⟩ := mh_h T.2.2.1 h10 (m := i) (by omega)
    rw [wY_mark_121]
    refine br_f (by rw [hM]; exact nI_ge (by omega) (by omega)) (yb_b (by omega) (fun y => ⟨vp_in_nI (by omega) (by decide), ?_⟩) (fun y => ?_))
    · rw [nI_c (by omega), o1]
      refine nm_e (nm_r (nI_1 i) (ih (i + 1) f _ (by omega) (by omega) (fun S hS => mk_a0 (h S hS) (mk_b1 (by omega) (hS.2.1 i (by omega) (h S hS 2 i y)))) (mk_grt g ⟨ss_ol a _, ss_rf b, ss_rf c, ss_rf d⟩) (fun m hm x => ?_)))
      rcases Nat.lt_or_ge m i with v | v
      · exact ss_ol a _ _ (p m v x)
      · have : m = i := by omega
        subst this; exact (bq_o1 a (by omega) _).mpr (Or.inr rfl)
    · refine nm_r (nI_1 i) (ih (i + 1) f a (by omega) (by omega) h g (fun m hm x => ?_))
      rcases Nat.lt_or_ge m i with v | v
      · exact p m v x
      · have : m = i := by omega
        subst this; exact absurd x y
/-- Y's rounds -/
theorem y6_l (T : tp_p C M R y_isInterface y_ancestors y_own chn y_parent y_many y_home y_ruleKind y_ruleClasses y_ruleNames xform xname xlen y_isAbstract y_name y_length xop xcl xnu xsm xsl xca y_op y_first y_second) (NF : ff_v C M y_isInterface y_ancestors chn y_home y_isAbstract y_name y_length y_op y_first y_second = none) (hC : y_classes = nI C) (hM : y_methods = nI M) {post : SY → Prop}
    (K : ∀ a b c d, my_p (cl_ok C M R y_ancestors y_home y_name y_ruleKind y_ruleClasses y_ruleNames (fun m => y_isAbstract m = 0) (ey_p C (fun m => y_isAbstract m = 0) y_ancestors (fo_v M y_ancestors chn y_home y_name) y_length y_op y_first y_second y_inlined)) a b c d → cl_ok C M R y_ancestors y_home y_name y_ruleKind y_ruleClasses y_ruleNames (fun m => y_isAbstract m = 0) (ey_p C (fun m => y_isAbstract m = 0) y_ancestors (fo_v M y_ancestors chn y_home y_name) y_length y_op y_first y_second y_inlined) (mk_s a b c d) → post (y_classes, y_methods, y_rules, y_place, a, b, c, d, y_built, y_depth, y_steps, y_outs, y_ending, y_isInterface, y_isAbstract, y_parent, y_ancestors, y_own, y_many, y_home, y_name, y_length, y_op, y_first, y_second, y_ruleKind, y_ruleClasses, y_ruleNames, y_inlined, y_number, y_newName, y_family, y_vMethod, y_vLine, y_vHeld, y_put)) :
    ∀ q f x1 x2 x3 x4 a b c d, pc_4 a b c d + q = 128 → q + 1 < f → my_p (cl_ok C M R y_ancestors y_home y_name y_ruleKind y_ruleClasses y_ruleNames (fun m => y_isAbstract m = 0) (ey_p C (fun m => y_isAbstract m = 0) y_ancestors (fo_v M y_ancestors chn y_home y_name) y_length y_op y_first y_second y_inlined)) a b c d → (∀ r, r < R → y_ruleKind r = 0 → rt_p C M y_home y_name y_ruleClasses y_ruleNames (fun m => y_isAbstract m = 0) r a c d) → ¬ (x1 = a ∧ x2 = b ∧ x3 = c ∧ x4 = d) → wY_mark_64 post f x1 x2 x3 x4 y_classes y_methods y_rules y_place a b c d y_built y_depth y_steps y_outs y_ending y_isInterface y_isAbstract y_parent y_ancestors y_own y_many y_home y_name y_length y_op y_first y_second y_ruleKind y_ruleClasses y_ruleNames y_inlined y_number y_newName y_family y_vMethod y_vLine y_vHeld y_put := by
  intro q
  induction q using Nat.strongRecOn with
  | ind q ih =>
    intro f x1 x2 x3 x4 a b c d e hf h t ne
    obtain ⟨f, rfl⟩ : ∃ q, f = q + 1 := ⟨f - 1, by omega⟩
    have go : wY_mark_97 post (wY_mark_64 post f) y_classes y_methods y_rules y_place a b c d y_built y_depth y_steps y_outs y_ending y_isInterface y_isAbstract y_parent y_ancestors y_own y_many y_home y_name y_length y_op y_first y_second y_ruleKind y_ruleClasses y_ruleNames y_inlined y_number y_newName y_family y_vMethod y_vLine y_vHeld y_put := by
      unfold wY_mark_97
      refine ⟨M + 1, y1_m T NF hC hM (a0 := a) (fun a' b' c' d' m1 m2 m3 m4 => ?_) M 0 (M + 1) a (by omega) (by omega) h (mk_gr0 a b c d) (fun m hm => by omega)⟩
      by_cases s : a' = a ∧ b' = b ∧ c' = c ∧ d' = d
      · have m4 := m4 s
        obtain ⟨s1, s2, s3, s4⟩ := s
        subst s1 s2 s3 s4
        obtain ⟨f, rfl⟩ : ∃ q, f = q + 1 := ⟨f - 1, by omega⟩
        rw [wY_mark_64]
        refine br_t rfl (br_t rfl (br_t rfl (br_t rfl (K a' b' c' d' m1 ⟨t, m3.1, m3.2, fun m hm x k hk => ?_⟩))))
        have l6 := (ty_len T hm).2
        have e1 : (6 * m + k) / 6 = m := by omega
        have e2 : (6 * m + k) % 6 = k := by omega
        exact m4 (6 * m + k) (by omega) (by rw [e1]; exact x) (by rw [e1, e2]; exact hk)
      · have lt := pc_4l m2.1 m2.2.1 m2.2.2.1 m2.2.2.2 (fun z => s ⟨z.1.symm, z.2.1.symm, z.2.2.1.symm, z.2.2.2.symm⟩)
        have mx := pc_4m a' b' c' d'
        exact ih (128 - pc_4 a' b' c' d') (by omega) f a b c d a' b' c' d' (by omega) (by omega) m1 (fun r hr y => rt_g (t r hr y) m2) (fun z => s ⟨z.1.symm, z.2.1.symm, z.2.2.1.symm, z.2.2.2.symm⟩)
    rw [wY_mark_64]
    exact br_c (fun e1 => br_c (fun e2 => br_c (fun e3 => br_c (fun e4 => absurd ⟨e1, e2, e3, e4⟩ ne) (fun _ => go)) (fun _ => go)) (fun _ => go)) (fun _ => go)
end
