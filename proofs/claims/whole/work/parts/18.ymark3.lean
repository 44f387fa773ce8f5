/-! ===== rules in Y; Y's marking as a whole ===== -/
section
variable {y_classes y_methods y_rules y_place y_named y_made y_namedMethods y_live y_built y_depth y_steps y_outs y_ending : Int32} {y_isInterface y_isAbstract y_parent y_ancestors y_own y_many y_home y_name y_length y_op y_first y_second y_ruleKind y_ruleClasses y_ruleNames y_inlined y_number y_newName y_family y_vMethod y_vLine y_vHeld y_put : Nat → Int32} {chn xform xname xlen xop xcl xnu xsm xsl xca : Nat → Int32} {C M R : Nat} {a b c d : Int32}
theorem yu_b (T : tp_p C M R y_isInterface y_ancestors y_own chn y_parent y_many y_home y_ruleKind y_ruleClasses y_ruleNames xform xname xlen y_isAbstract y_name y_length xop xcl xnu xsm xsl xca y_op y_first y_second) (hR : y_rules = nI R) {A B : Prop} {m : Nat} {q : Int32} (hm : m < M) (t : (∃ r, r < R ∧ ¬ q ≤ y_ruleKind r ∧ bt (y_ruleClasses r) (hq_t (y_home m)) = true ∧ bt (y_ruleNames r) (hq_t (y_name m)) = true) → B) (f : ¬ (∃ r, r < R ∧ ¬ q ≤ y_ruleKind r ∧ bt (y_ruleClasses r) (hq_t (y_home m)) = true ∧ bt (y_ruleNames r) (hq_t (y_name m)) = true) → A) :
    wpY_isRuled (fun z => (z = 0 → A) ∧ (¬ z = 0 → B)) (y_classes, y_methods, y_rules, y_place, y_named, y_made, y_namedMethods, y_live, y_built, y_depth, y_steps, y_outs, y_ending, y_isInterface, y_isAbstract, y_parent, y_ancestors, y_own, y_many, y_home, y_name, y_length, y_op, y_first, y_second, y_ruleKind, y_ruleClasses, y_ruleNames, y_inlined, y_number, y_newName, y_family, y_vMethod, y_vLine, y_vHeld, y_put) (nI m) q := by
  have h30 := T.2.2.1.1
  have h10 := T.1.1
  have h4 := T.2.2.2.2.2.2.1
  obtain ⟨o1, o2⟩ := mh_h T.2.2.1 h10 hm
  obtain ⟨⟨n, n10, _, f2⟩, _⟩ := T.2.2.2.1 m hm
  have hne : hq_t (y_name m) = n := by rw [f2]; exact hq_e (by omega)
  have lo : ∀ k i g, i + k = R → k < g → (∀ r, r < i → ¬ (¬ q ≤ y_ruleKind r ∧ bt (y_ruleClasses r) (hq_t (y_home m)) = true ∧ bt (y_ruleNames r) (hq_t (y_name m)) = true)) →
      wY_isRuled_2 (fun z => (z = 0 → A) ∧ (¬ z = 0 → B)) (nI m) q y_classes y_methods y_rules y_place y_named y_made y_namedMethods y_live y_built y_depth y_steps y_outs y_ending y_isInterface y_isAbstract y_parent y_ancestors y_own y_many y_home y_name y_length y_op y_first y_second y_ruleKind y_ruleClasses y_ruleNames y_inlined y_number y_newName y_family y_vMethod y_vLine y_vHeld y_put g (nI i) := by
    intro k
    induction k with
    | zero =>
      intro i g e hg no
      obtain ⟨g, rfl⟩ : ∃ q, g = q + 1 := ⟨g - 1, by omega⟩
      rw [wY_isRuled_2]
      refine br_t (by rw [hR]; exact nI_le (by omega) (by omega)) (br_0 (f ?_))
      rintro ⟨r, hr, z⟩
      exact no r (by omega) z
    | succ k ih =>
      intro i g e hg no
      obtain ⟨g, rfl⟩ : ∃ q, g = q + 1 := ⟨g - 1, by omega⟩
      have nx : ¬ (¬ q ≤ y_ruleKind i ∧ bt (y_ruleClasses i) (hq_t (y_home m)) = true ∧ bt (y_ruleNames i) (hq_t (y_name m)) = true) →
          wY_isRuled_2 (fun z => (z = 0 → A) ∧ (¬ z = 0 → B)) (nI m) q y_classes y_methods y_rules y_place y_named y_made y_namedMethods y_live y_built y_depth y_steps y_outs y_ending y_isInterface y_isAbstract y_parent y_ancestors y_own y_many y_home y_name y_length y_op y_first y_second y_ruleKind y_ruleClasses y_ruleNames y_inlined y_number y_newName y_family y_vMethod y_vLine y_vHeld y_put g (nI (i + 1)) := fun y => ih (i + 1) g (by omega) (by omega) (fun r hr => by
        rcases Nat.lt_or_ge r i with v | v
        · exact no r v
        · have : r = i := by omega
          subst this; exact y)
      rw [wY_isRuled_2]
      refine br_f (by rw [hR]; exact nI_ge (by omega) (by omega)) ⟨vp_in_nI (by omega) (by decide), ?_⟩
      rw [nI_c (show i < 10000 by omega), nI_c (show m < 10000 by omega), o1, f2]
      refine br_c (fun y => nm_r (nI_1 i) (nx (fun q => q.1 y))) (fun y => ⟨vp_in_nI (by omega) (by decide), vp_in_nI (by omega) (by decide), ?_⟩)
      refine yb_b (by omega) (fun x => ⟨vp_in_nI (by omega) (by decide), vp_in_nI (by omega) (by decide), ?_⟩) (fun x => nm_r (nI_1 i) (nx (fun q => x q.2.1)))
      refine yb_b (by omega) (fun w => br_1 (t ⟨i, by omega, y, x, by rw [hne]; exact w⟩)) (fun w => nm_r (nI_1 i) (nx (fun q => w (by rw [← hne]; exact q.2.2))))
  unfold wpY_isRuled
  exact ⟨R + 1, lo R 0 (R + 1) (by omega) (by omega) (fun r hr => by omega)⟩
theorem yU_v (hC : y_classes = nI C) (hR : y_rules = nI R) (h10 : C ≤ 10) (h4 : R ≤ 4) {post : Int32 → Prop} {q : Int32}
    (K : ∀ v, (∀ i, bt v i = true ↔ i < C ∧ ∃ r, r < R ∧ ¬ q ≤ y_ruleKind r ∧ bt (y_ruleClasses r) i = true) → post v) : wpY_ruledClasses post (y_classes, y_methods, y_rules, y_place, y_named, y_made, y_namedMethods, y_live, y_built, y_depth, y_steps, y_outs, y_ending, y_isInterface, y_isAbstract, y_parent, y_ancestors, y_own, y_many, y_home, y_name, y_length, y_op, y_first, y_second, y_ruleKind, y_ruleClasses, y_ruleNames, y_inlined, y_number, y_newName, y_family, y_vMethod, y_vLine, y_vHeld, y_put) q := by
  have lo : ∀ k i g v, i + k = R → k < g → (∀ j, bt v j = true ↔ ∃ r, r < i ∧ ¬ q ≤ y_ruleKind r ∧ bt (y_ruleClasses r) j = true) → wY_ruledClasses_4 post q y_classes y_methods y_rules y_place y_named y_made y_namedMethods y_live y_built y_depth y_steps y_outs y_ending y_isInterface y_isAbstract y_parent y_ancestors y_own y_many y_home y_name y_length y_op y_first y_second y_ruleKind y_ruleClasses y_ruleNames y_inlined y_number y_newName y_family y_vMethod y_vLine y_vHeld y_put g v (nI i) := by
    intro k
    induction k with
    | zero =>
      intro i g v e hg z
      obtain ⟨g, rfl⟩ : ∃ q, g = q + 1 := ⟨g - 1, by omega⟩
      have e : i = R := by omega
      subst e
      rw [wY_ruledClasses_4]
      refine br_t (by rw [hR]; exact nI_le (by omega) (by omega)) (K _ (fun j => ?_))
      rw [hC, b_and, Bool.and_eq_true, z j]
      rcases Nat.lt_or_ge j 32 with w | w
      · rw [nu_mask C (by omega) j w, decide_eq_true_eq]
        exact And.comm
      · rw [b_big w]
        exact ⟨fun y => absurd y.2 (by decide), fun y => by omega⟩
    | succ k ih =>
      intro i g v e hg z
      obtain ⟨g, rfl⟩ : ∃ q, g = q + 1 := ⟨g - 1, by omega⟩
      rw [wY_ruledClasses_4]
      refine br_f (by rw [hR]; exact nI_ge (by omega) (by omega)) ⟨vp_in_nI (by omega) (by decide), ?_⟩
      rw [nI_c (by omega)]
      refine br_c (fun y => nm_r (nI_1 i) (ih (i + 1) g v (by omega) (by omega) (fun j => ?_))) (fun y => ⟨vp_in_nI (by omega) (by decide), nm_e (nm_r (nI_1 i) (ih (i + 1) g _ (by omega) (by omega) (fun j => ?_)))⟩)
      · rw [z j]
        constructor
        · rintro ⟨r, a1, a2⟩; exact ⟨r, by omega, a2⟩
        · rintro ⟨r, a1, a2, a3⟩
          rcases Nat.lt_or_ge r i with v | v
          · exact ⟨r, v, a2, a3⟩
          · have : r = i := by omega
            subst this; exact absurd y a2
      · rw [b_or, Bool.or_eq_true, z j]
        constructor
        · rintro (⟨r, a1, a2⟩ | a)
          · exact ⟨r, by omega, a2⟩
          · exact ⟨i, by omega, y, a⟩
        · rintro ⟨r, a1, a2, a3⟩
          rcases Nat.lt_or_ge r i with v | v
          · exact Or.inl ⟨r, v, a2, a3⟩
          · have : r = i := by omega
            subst this; exact Or.inr a3
  unfold wpY_ruledClasses
  exact ⟨R + 1, lo R 0 (R + 1) 0 (by omega) (by omega) (fun j => by
    rw [b_0]
    exact ⟨fun z => absurd z (by decide), fun ⟨r, hr, _⟩ => by omega⟩)⟩
theorem y0_v (T : tp_p C M R y_isInterface y_ancestors y_own chn y_parent y_many y_home y_ruleKind y_ruleClasses y_ruleNames xform xname xlen y_isAbstract y_name y_length xop xcl xnu xsm xsl xca y_op y_first y_second) (NF : ff_v C M y_isInterface y_ancestors chn y_home y_isAbstract y_name y_length y_op y_first y_second = none) (hC : y_classes = nI C) (hM : y_methods = nI M) (hR : y_rules = nI R) {post : SY → Prop}
    (K : ∀ a b c d, my_p (cl_ok C M R y_ancestors y_home y_name y_ruleKind y_ruleClasses y_ruleNames (fun m => y_isAbstract m = 0) (ey_p C (fun m => y_isAbstract m = 0) y_ancestors (fo_v M y_ancestors chn y_home y_name) y_length y_op y_first y_second y_inlined)) a b c d → cl_ok C M R y_ancestors y_home y_name y_ruleKind y_ruleClasses y_ruleNames (fun m => y_isAbstract m = 0) (ey_p C (fun m => y_isAbstract m = 0) y_ancestors (fo_v M y_ancestors chn y_home y_name) y_length y_op y_first y_second y_inlined) (mk_s a b c d) → post (y_classes, y_methods, y_rules, y_place, a, b, c, d, y_built, y_depth, y_steps, y_outs, y_ending, y_isInterface, y_isAbstract, y_parent, y_ancestors, y_own, y_many, y_home, y_name, y_length, y_op, y_first, y_second, y_ruleKind, y_ruleClasses, y_ruleNames, y_inlined, y_number, y_newName, y_family, y_vMethod, y_vLine, y_vHeld, y_put)) : wpY_mark post (y_classes, y_methods, y_rules, y_place, y_named, y_made, y_namedMethods, y_live, y_built, y_depth, y_steps, y_outs, y_ending, y_isInterface, y_isAbstract, y_parent, y_ancestors, y_own, y_many, y_home, y_name, y_length, y_op, y_first, y_second, y_ruleKind, y_ruleClasses, y_ruleNames, y_inlined, y_number, y_newName, y_family, y_vMethod, y_vLine, y_vHeld, y_put) := by
  have h30 := T.2.2.1.1
  have h10 := T.1.1
  have h4 := T.2.2.2.2.2.2.1
  have kd : ∀ r, r < R → (¬ (1 : Int32) ≤ y_ruleKind r ↔ y_ruleKind r = 0) := fun r hr => by
    rcases T.2.2.2.2.2.2.2 r hr with e | e
    · rw [e]; exact ⟨fun _ => rfl, fun _ => by decide⟩
    · rw [e]; exact ⟨fun z => absurd (by decide) z, fun z => absurd z (by decide)⟩
  unfold wpY_mark
  dsimp only
  refine yU_v hC hR h10 h4 (fun v hv => ⟨M + 1, ?_⟩)
  have lo : ∀ q i f c d, i + q = M → q < f → my_p (cl_ok C M R y_ancestors y_home y_name y_ruleKind y_ruleClasses y_ruleNames (fun m => y_isAbstract m = 0) (ey_p C (fun m => y_isAbstract m = 0) y_ancestors (fo_v M y_ancestors chn y_home y_name) y_length y_op y_first y_second y_inlined)) v 0 c d →
      (∀ m, m < i → (∃ r, r < R ∧ ¬ (1 : Int32) ≤ y_ruleKind r ∧ bt (y_ruleClasses r) (hq_t (y_home m)) = true ∧ bt (y_ruleNames r) (hq_t (y_name m)) = true) → bt c m = true ∧ (y_isAbstract m = 0 → bt d m = true)) →
      wY_mark_26 post f (nI i) y_classes y_methods y_rules y_place v 0 c d y_built y_depth y_steps y_outs y_ending y_isInterface y_isAbstract y_parent y_ancestors y_own y_many y_home y_name y_length y_op y_first y_second y_ruleKind y_ruleClasses y_ruleNames y_inlined y_number y_newName y_family y_vMethod y_vLine y_vHeld y_put := by
    intro q
    induction q with
    | zero =>
      intro i f c d e hf h z
      obtain ⟨f, rfl⟩ : ∃ q, f = q + 1 := ⟨f - 1, by omega⟩
      have e : i = M := by omega
      subst e
      rw [wY_mark_26]
      have mx := pc_4m v 0 c d
      refine br_t (by rw [hM]; exact nI_le (by omega) (by omega)) ⟨130, ?_⟩
      refine y6_l T NF hC hM K (128 - pc_4 v 0 c d) 130 _ _ _ _ v 0 c d (by omega) (by omega) h (fun r hr k0 => ⟨fun k hk x => (hv k).mpr ⟨hk, r, hr, (kd r hr).mpr k0, x⟩, fun m hm x y => ?_⟩) (fun s => absurd s.2.1 (by decide))
      exact z m hm ⟨r, hr, (kd r hr).mpr k0, x, y⟩
    | succ q ih =>
      intro i f c d e hf h z
      obtain ⟨f, rfl⟩ : ∃ q, f = q + 1 := ⟨f - 1, by omega⟩
      rw [wY_mark_26]
      refine br_f (by rw [hM]; exact nI_ge (by omega) (by omega)) (yu_b T hR (by omega) (fun y => ?_) (fun y => ?_))
      · refine yr_1 (m := i) (by omega) h (fun S hS => ?_) (fun c' d' m1 m2 m3 m4 => ?_)
        · obtain ⟨r, hr, k0, x1, x2⟩ := y
          exact (hS.1 r hr ((kd r hr).mp k0)).2 i (by omega) x1 x2
        · refine nm_r (nI_1 i) (ih (i + 1) f c' d' (by omega) (by omega) m1 (fun m hm x => ?_))
          rcases Nat.lt_or_ge m i with w | w
          · exact ⟨m2.2.2.1 m (z m w x).1, fun u => m2.2.2.2 m ((z m w x).2 u)⟩
          · have : m = i := by omega
            subst this; exact ⟨m3, m4⟩
      · refine nm_r (nI_1 i) (ih (i + 1) f c d (by omega) (by omega) h (fun m hm x => ?_))
        rcases Nat.lt_or_ge m i with w | w
        · exact z m w x
        · have : m = i := by omega
          subst this; exact absurd x y
  refine lo M 0 (M + 1) 0 0 (by omega) (by omega) (fun S hS => ?_) (fun m hm => by omega)
  have z : ∀ i, ¬ bt 0 i = true := fun i h => by rw [b_0] at h; exact absurd h (by decide)
  refine mk_lI (fun i h => ?_) (fun i h => absurd h (z i)) (fun i h => absurd h (z i)) (fun i h => absurd h (z i))
  obtain ⟨hi, r, hr, k0, x⟩ := (hv i).mp h
  exact (hS.1 r hr ((kd r hr).mp k0)).1 i hi x
end
