/-! ===== names: Y ===== -/
section
variable {y_classes y_methods y_rules y_place y_named y_made y_namedMethods y_live y_built y_depth y_steps y_outs y_ending : Int32} {y_isInterface y_isAbstract y_parent y_ancestors y_own y_many y_home y_name y_length y_op y_first y_second y_ruleKind y_ruleClasses y_ruleNames y_inlined y_number y_newName y_family y_vMethod y_vLine y_vHeld y_put : Nat → Int32} {C M R : Nat}
theorem yG_v (h10 : C ≤ 10) (g : mh_ok C M y_home) (hl : ss_le y_live y_namedMethods) (hC : y_classes = nI C) (hM : y_methods = nI M) (hf : (∀ m, m < M → y_family m = nI (kn_f C M y_ancestors y_home y_name y_named y_namedMethods m))) {post : Int32 → Prop} {f : Nat} (hfM : f < M)
    (K : ∀ v, (∀ d, bt v d = true ↔ sg_p C M y_ancestors y_home y_name y_named y_namedMethods f d) → post v) : wpY_sight post (y_classes, y_methods, y_rules, y_place, y_named, y_made, y_namedMethods, y_live, y_built, y_depth, y_steps, y_outs, y_ending, y_isInterface, y_isAbstract, y_parent, y_ancestors, y_own, y_many, y_home, y_name, y_length, y_op, y_first, y_second, y_ruleKind, y_ruleClasses, y_ruleNames, y_inlined, y_number, y_newName, y_family, y_vMethod, y_vLine, y_vHeld, y_put) (nI f) := by
  have h30 := g.1
  have kl := kn_le (C := C) (M := M) (anc := y_ancestors) (hom := y_home) (nam := y_name) (N := y_named) (Q := y_namedMethods)
  have lo2 : ∀ h, (∀ e, bt h e = true ↔ ∃ m, m < M ∧ bt y_namedMethods m = true ∧ kn_f C M y_ancestors y_home y_name y_named y_namedMethods m = f ∧ hq_t (y_home m) = e) → ∀ q i fu v, i + q = C → q < fu →
      (∀ d, bt v d = true ↔ d < i ∧ bt y_named d = true ∧ ∃ m, m < M ∧ bt y_namedMethods m = true ∧ kn_f C M y_ancestors y_home y_name y_named y_namedMethods m = f ∧ bt (y_ancestors d) (hq_t (y_home m)) = true) → wY_sight_57 post h y_classes y_methods y_rules y_place y_named y_made y_namedMethods y_live y_built y_depth y_steps y_outs y_ending y_isInterface y_isAbstract y_parent y_ancestors y_own y_many y_home y_name y_length y_op y_first y_second y_ruleKind y_ruleClasses y_ruleNames y_inlined y_number y_newName y_family y_vMethod y_vLine y_vHeld y_put fu v (nI i) := by
    intro h hh q
    have mt : ∀ d, (y_ancestors d &&& h) = 0 ↔ ¬ ∃ m, m < M ∧ bt y_namedMethods m = true ∧ kn_f C M y_ancestors y_home y_name y_named y_namedMethods m = f ∧ bt (y_ancestors d) (hq_t (y_home m)) = true := fun d => by
      rw [bq_ze]
      constructor
      · rintro z ⟨m, a, b, c, e⟩
        refine z (hq_t (y_home m)) ?_
        rw [b_and, Bool.and_eq_true]
        exact ⟨e, (hh _).mpr ⟨m, a, b, c, rfl⟩⟩
      · intro z i y
        rw [b_and, Bool.and_eq_true] at y
        obtain ⟨m, a, b, c, e⟩ := (hh i).mp y.2
        exact z ⟨m, a, b, c, by rw [e]; exact y.1⟩
    induction q with
    | zero =>
      intro i fu v e hfu z
      obtain ⟨fu, rfl⟩ : ∃ q, fu = q + 1 := ⟨fu - 1, by omega⟩
      have e : i = C := by omega
      subst e
      rw [wY_sight_57]
      exact br_t (by rw [hC]; exact nI_le (by omega) (by omega)) (K v z)
    | succ q ih =>
      intro i fu v e hfu z
      obtain ⟨fu, rfl⟩ : ∃ q, fu = q + 1 := ⟨fu - 1, by omega⟩
      have nx : ¬ (bt y_named i = true ∧ ∃ m, m < M ∧ bt y_namedMethods m = true ∧ kn_f C M y_ancestors y_home y_name y_named y_namedMethods m = f ∧ bt (y_ancestors i) (hq_t (y_home m)) = true) → wY_sight_57 post h y_classes y_methods y_rules y_place y_named y_made y_namedMethods y_live y_built y_depth y_steps y_outs y_ending y_isInterface y_isAbstract y_parent y_ancestors y_own y_many y_home y_name y_length y_op y_first y_second y_ruleKind y_ruleClasses y_ruleNames y_inlined y_number y_newName y_family y_vMethod y_vLine y_vHeld y_put fu v (nI (i + 1)) := fun y =>
        ih (i + 1) fu v (by omega) (by omega) (fun d => (z d).trans ⟨fun ⟨a, b⟩ => ⟨by omega, b⟩, fun ⟨a, b⟩ => by
          rcases Nat.lt_or_ge d i with w | w
          · exact ⟨w, b⟩
          · have : d = i := by omega
            subst this; exact absurd b y⟩)
      rw [wY_sight_57]
      refine br_f (by rw [hC]; exact nI_ge (by omega) (by omega)) (yb_b (by omega) (fun y => ⟨vp_in_nI (by omega) (by decide), ?_⟩) (fun y => nm_r (nI_1 i) (nx (fun q => y q.1))))
      rw [nI_c (show i < 10000 by omega)]
      refine ek_if (mt i) (fun x => nm_r (nI_1 i) (nx (fun q => x q.2))) (fun x => nm_e (nm_r (nI_1 i) (ih (i + 1) fu _ (by omega) (by omega) (fun d => ?_))))
      rw [bq_o1 _ (by omega), z d]
      constructor
      · rintro (⟨a, b⟩ | h)
        · exact ⟨by omega, b⟩
        · subst h; exact ⟨by omega, y, Classical.byContradiction x⟩
      · rintro ⟨a, b⟩
        rcases Nat.lt_or_ge d i with w | w
        · exact Or.inl ⟨w, b⟩
        · exact Or.inr (by omega)
  have lo1 : ∀ q i fu h, i + q = M → q < fu → (∀ e, bt h e = true ↔ ∃ m, m < i ∧ bt y_namedMethods m = true ∧ kn_f C M y_ancestors y_home y_name y_named y_namedMethods m = f ∧ hq_t (y_home m) = e) → wY_sight_7 post (nI f) 0 y_classes y_methods y_rules y_place y_named y_made y_namedMethods y_live y_built y_depth y_steps y_outs y_ending y_isInterface y_isAbstract y_parent y_ancestors y_own y_many y_home y_name y_length y_op y_first y_second y_ruleKind y_ruleClasses y_ruleNames y_inlined y_number y_newName y_family y_vMethod y_vLine y_vHeld y_put fu h (nI i) := by
    intro q
    induction q with
    | zero =>
      intro i fu h e hfu z
      obtain ⟨fu, rfl⟩ : ∃ q, fu = q + 1 := ⟨fu - 1, by omega⟩
      have e : i = M := by omega
      subst e
      rw [wY_sight_7]
      refine br_t (by rw [hM]; exact nI_le (by omega) (by omega)) ⟨C + 1, lo2 h z C 0 (C + 1) 0 (by omega) (by omega) (fun d => ?_)⟩
      rw [b_0]
      exact ⟨fun y => absurd y (by decide), fun y => by omega⟩
    | succ q ih =>
      intro i fu h e hfu z
      obtain ⟨fu, rfl⟩ : ∃ q, fu = q + 1 := ⟨fu - 1, by omega⟩
      obtain ⟨o1, o2⟩ := mh_h g h10 (m := i) (by omega)
      have kli := kl i
      have nx : ¬ (bt y_namedMethods i = true ∧ kn_f C M y_ancestors y_home y_name y_named y_namedMethods i = f) → wY_sight_7 post (nI f) 0 y_classes y_methods y_rules y_place y_named y_made y_namedMethods y_live y_built y_depth y_steps y_outs y_ending y_isInterface y_isAbstract y_parent y_ancestors y_own y_many y_home y_name y_length y_op y_first y_second y_ruleKind y_ruleClasses y_ruleNames y_inlined y_number y_newName y_family y_vMethod y_vLine y_vHeld y_put fu h (nI (i + 1)) := fun y => ih (i + 1) fu h (by omega) (by omega) (fun e => (z e).trans ⟨fun ⟨m, a, b⟩ => ⟨m, by omega, b⟩, fun ⟨m, a, b⟩ => by
        rcases Nat.lt_or_ge m i with w | w
        · exact ⟨m, w, b⟩
        · have : m = i := by omega
          subst this; exact absurd ⟨b.1, b.2.1⟩ y⟩)
      rw [wY_sight_7]
      refine br_f (by rw [hM]; exact nI_ge (by omega) (by omega)) (yR_b hl (by omega) (fun y => ⟨vp_in_nI (by omega) (by decide), ?_⟩) (fun y => nm_r (nI_1 i) (nx (fun q => y q.1))))
      rw [nI_c (show i < 10000 by omega), hf i (by omega)]
      refine pk_eq (kn_f C M y_ancestors y_home y_name y_named y_namedMethods i) f (fun x => ⟨vp_in_nI (by omega) (by decide), ?_⟩) (fun x => nm_r (nI_1 i) (nx (fun q => x q.2)))
      rw [o1]
      refine nm_e (nm_r (nI_1 i) (ih (i + 1) fu _ (by omega) (by omega) (fun e => ?_)))
      rw [bq_o1 _ (by omega), z e]
      constructor
      · rintro (⟨m, a, b⟩ | w)
        · exact ⟨m, by omega, b⟩
        · exact ⟨i, by omega, y, x, w.symm⟩
      · rintro ⟨m, a, b⟩
        rcases Nat.lt_or_ge m i with w | w
        · exact Or.inl ⟨m, w, b⟩
        · have : m = i := by omega
          subst this; exact Or.inr b.2.2.symm
  unfold wpY_sight
  refine ⟨M + 1, lo1 M 0 (M + 1) 0 (by omega) (by omega) (fun e => ?_)⟩
  rw [b_0]
  exact ⟨fun y => absurd y (by decide), fun ⟨m, a, _⟩ => by omega⟩
theorem yT_b (h10 : C ≤ 10) (g : mh_ok C M y_home) (hl : ss_le y_live y_namedMethods) (hC : y_classes = nI C) (hM : y_methods = nI M) (hf : (∀ m, m < M → y_family m = nI (kn_f C M y_ancestors y_home y_name y_named y_namedMethods m))) {f n : Nat} (hfM : f < M) (hn : n < 2 ^ 31) {k : Nat} (ok : na_ok C M R y_ancestors y_home y_name y_ruleClasses y_ruleNames y_named y_namedMethods k y_newName) {A B : Prop}
    (tr : na_tk C M y_ancestors y_home y_name y_named y_namedMethods y_newName f n → B) (fa : ¬ na_tk C M y_ancestors y_home y_name y_named y_namedMethods y_newName f n → A) : wpY_isTaken (fun z => (z = 0 → A) ∧ (¬ z = 0 → B)) (y_classes, y_methods, y_rules, y_place, y_named, y_made, y_namedMethods, y_live, y_built, y_depth, y_steps, y_outs, y_ending, y_isInterface, y_isAbstract, y_parent, y_ancestors, y_own, y_many, y_home, y_name, y_length, y_op, y_first, y_second, y_ruleKind, y_ruleClasses, y_ruleNames, y_inlined, y_number, y_newName, y_family, y_vMethod, y_vLine, y_vHeld, y_put) (nI f) (nI n) := by
  have h30 := g.1
  have kl := kn_le (C := C) (M := M) (anc := y_ancestors) (hom := y_home) (nam := y_name) (N := y_named) (Q := y_namedMethods)
  unfold wpY_isTaken
  dsimp only
  refine yG_v h10 g hl hC hM hf hfM (fun mine hmine => ⟨M + 1, ?_⟩)
  have lo : ∀ q i fu, i + q = M → q < fu → (∀ h, h < i → y_newName h = nI n → ¬ sg_m C M y_ancestors y_home y_name y_named y_namedMethods f h) → wY_isTaken_9 (fun z => (z = 0 → A) ∧ (¬ z = 0 → B)) (nI n) mine y_classes y_methods y_rules y_place y_named y_made y_namedMethods y_live y_built y_depth y_steps y_outs y_ending y_isInterface y_isAbstract y_parent y_ancestors y_own y_many y_home y_name y_length y_op y_first y_second y_ruleKind y_ruleClasses y_ruleNames y_inlined y_number y_newName y_family y_vMethod y_vLine y_vHeld y_put fu (nI i) := by
    intro q
    induction q with
    | zero =>
      intro i fu e hfu z
      obtain ⟨fu, rfl⟩ : ∃ q, fu = q + 1 := ⟨fu - 1, by omega⟩
      have e : i = M := by omega
      subst e
      rw [wY_isTaken_9]
      exact br_t (by rw [hM]; exact nI_le (by omega) (by omega)) (br_0 (fa (fun ⟨h, a, b, c⟩ => z h a b c)))
    | succ q ih =>
      intro i fu e hfu z
      obtain ⟨fu, rfl⟩ : ∃ q, fu = q + 1 := ⟨fu - 1, by omega⟩
      have kli := kl i
      have nx : (y_newName i = nI n → ¬ sg_m C M y_ancestors y_home y_name y_named y_namedMethods f i) → wY_isTaken_9 (fun z => (z = 0 → A) ∧ (¬ z = 0 → B)) (nI n) mine y_classes y_methods y_rules y_place y_named y_made y_namedMethods y_live y_built y_depth y_steps y_outs y_ending y_isInterface y_isAbstract y_parent y_ancestors y_own y_many y_home y_name y_length y_op y_first y_second y_ruleKind y_ruleClasses y_ruleNames y_inlined y_number y_newName y_family y_vMethod y_vLine y_vHeld y_put fu (nI (i + 1)) := fun y => ih (i + 1) fu (by omega) (by omega) (fun h hh => by
        rcases Nat.lt_or_ge h i with w | w
        · exact z h w
        · have : h = i := by omega
          subst this; exact y)
      have no : (y_newName i = nI n → ¬ sg_m C M y_ancestors y_home y_name y_named y_namedMethods f i) → wY_isTaken_54 (fun z => (z = 0 → A) ∧ (¬ z = 0 → B)) (wY_isTaken_9 (fun z => (z = 0 → A) ∧ (¬ z = 0 → B)) (nI n) mine y_classes y_methods y_rules y_place y_named y_made y_namedMethods y_live y_built y_depth y_steps y_outs y_ending y_isInterface y_isAbstract y_parent y_ancestors y_own y_many y_home y_name y_length y_op y_first y_second y_ruleKind y_ruleClasses y_ruleNames y_inlined y_number y_newName y_family y_vMethod y_vLine y_vHeld y_put fu) (nI n) mine (nI i) y_classes y_methods y_rules y_place y_named y_made y_namedMethods y_live y_built y_depth y_steps y_outs y_ending y_isInterface y_isAbstract y_parent y_ancestors y_own y_many y_home y_name y_length y_op y_first y_second y_ruleKind y_ruleClasses y_ruleNames y_inlined y_number y_newName y_family y_vMethod y_vLine y_vHeld y_put := fun y => by
        unfold wY_isTaken_54 wY_isTaken_55
        exact br_t rfl (nm_r (nI_1 i) (nx y))
      have has : y_newName i = nI n → bt y_namedMethods i = true ∧ kn_f C M y_ancestors y_home y_name y_named y_namedMethods i = i := fun y => by
        rcases ok.1 i (by omega) with w | ⟨m, _, _, b⟩
        · rw [w] at y; exact absurd y.symm (oI_n (by omega))
        · exact b
      rw [wY_isTaken_9]
      refine br_f (by rw [hM]; exact nI_ge (by omega) (by omega)) (yR_b hl (by omega) (fun y => ⟨vp_in_nI (by omega) (by decide), ?_⟩) (fun y => no (fun w => absurd (has w).1 y)))
      rw [nI_c (show i < 10000 by omega), hf i (by omega)]
      refine pk_eq (kn_f C M y_ancestors y_home y_name y_named y_namedMethods i) i (fun x => ⟨vp_in_nI (by omega) (by decide), br_c (fun w => ?_) (fun w => no (fun v => absurd v w))⟩) (fun x => no (fun w => absurd (has w).2 x))
      unfold wY_isTaken_55
      refine br_f (by decide) (yG_v h10 g hl hC hM hf (by omega) (fun v hv => ?_))
      have mt : (v &&& mine) = 0 ↔ ¬ sg_m C M y_ancestors y_home y_name y_named y_namedMethods f i := by
        rw [bq_ze]
        constructor
        · rintro zz ⟨d, a, b⟩
          refine zz d ?_
          rw [b_and, Bool.and_eq_true]
          exact ⟨(hv d).mpr b, (hmine d).mpr a⟩
        · intro zz j yy
          rw [b_and, Bool.and_eq_true] at yy
          exact zz ⟨j, (hmine j).mp yy.2, (hv j).mp yy.1⟩
      exact ek_if mt (fun u => nm_r (nI_1 i) (nx (fun _ => u))) (fun u => br_1 (tr ⟨i, by omega, w, Classical.byContradiction u⟩))
  exact lo M 0 (M + 1) (by omega) (by omega) (fun h hh => by omega)
theorem yA_b (h10 : C ≤ 10) (g : mh_ok C M y_home) (hl : ss_le y_live y_namedMethods) (hC : y_classes = nI C) (hM : y_methods = nI M) (hf : (∀ m, m < M → y_family m = nI (kn_f C M y_ancestors y_home y_name y_named y_namedMethods m))) (hnn : ∀ m, m < M → ∃ n, n < 10 ∧ y_name m = nI n) {post : SY → Prop}
    (K : ∀ nn, (∀ m, m < M → nn m = na_it C M R y_ancestors y_home y_name y_ruleClasses y_ruleNames y_named y_namedMethods M m) → post (y_classes, y_methods, y_rules, y_place, y_named, y_made, y_namedMethods, y_live, y_built, y_depth, y_steps, y_outs, y_ending, y_isInterface, y_isAbstract, y_parent, y_ancestors, y_own, y_many, y_home, y_name, y_length, y_op, y_first, y_second, y_ruleKind, y_ruleClasses, y_ruleNames, y_inlined, y_number, nn, y_family, y_vMethod, y_vLine, y_vHeld, y_put)) :
    ∀ q i fu nn, i + q = M → q < fu → (∀ m, m < M → nn m = na_it C M R y_ancestors y_home y_name y_ruleClasses y_ruleNames y_named y_namedMethods i m) → wY_rename_75 post y_classes y_methods y_rules y_place y_named y_made y_namedMethods y_live y_built y_depth y_steps y_outs y_ending fu (nI i) y_isInterface y_isAbstract y_parent y_ancestors y_own y_many y_home y_name y_length y_op y_first y_second y_ruleKind y_ruleClasses y_ruleNames y_inlined y_number nn y_family y_vMethod y_vLine y_vHeld y_put := by
  have h30 := g.1
  have kl := kn_le (C := C) (M := M) (anc := y_ancestors) (hom := y_home) (nam := y_name) (N := y_named) (Q := y_namedMethods)
  intro q
  induction q with
  | zero =>
    intro i fu nn e hfu a
    obtain ⟨fu, rfl⟩ : ∃ q, fu = q + 1 := ⟨fu - 1, by omega⟩
    have e : i = M := by omega
    subst e
    rw [wY_rename_75]
    exact br_t (by rw [hM]; exact nI_le (by omega) (by omega)) (K nn a)
  | succ q ih =>
    intro i fu nn e hfu a
    obtain ⟨fu, rfl⟩ : ∃ q, fu = q + 1 := ⟨fu - 1, by omega⟩
    have kli := kl i
    have hi : i < M := by omega
    have ok0 := na_all (C := C) (R := R) (anc := y_ancestors) (hom := y_home) (rc := y_ruleClasses) (rn := y_ruleNames) (N := y_named) (Q := y_namedMethods) h30 hnn i (by omega)
    have ok : na_ok C M R y_ancestors y_home y_name y_ruleClasses y_ruleNames y_named y_namedMethods i nn := by
      obtain ⟨p1, p2, p3, p4, p5⟩ := ok0
      refine ⟨fun h hh => by rw [a h hh]; exact p1 h hh, fun h k hh hk ne => by rw [a h hh, a k hk]; exact p2 h k hh hk ne, fun h x y => by rw [a h y]; exact p3 h x y, fun h x => by rw [a h x]; exact p4 h x, fun h x y => by rw [a h y]; exact p5 h x y⟩
    have tke : ∀ n, na_tk C M y_ancestors y_home y_name y_named y_namedMethods nn i n ↔ na_tk C M y_ancestors y_home y_name y_named y_namedMethods (na_it C M R y_ancestors y_home y_name y_ruleClasses y_ruleNames y_named y_namedMethods i) i n := fun n => ⟨fun ⟨h, x, y, z⟩ => ⟨h, x, by rw [← a h x]; exact y, z⟩, fun ⟨h, x, y, z⟩ => ⟨h, x, by rw [a h x]; exact y, z⟩⟩
    have sk : ¬ (bt y_namedMethods i = true ∧ kn_f C M y_ancestors y_home y_name y_named y_namedMethods i = i ∧ ¬ kp_p C M R y_ancestors y_home y_name y_ruleClasses y_ruleNames y_named y_namedMethods i) → wY_rename_75 post y_classes y_methods y_rules y_place y_named y_made y_namedMethods y_live y_built y_depth y_steps y_outs y_ending fu (nI (i + 1)) y_isInterface y_isAbstract y_parent y_ancestors y_own y_many y_home y_name y_length y_op y_first y_second y_ruleKind y_ruleClasses y_ruleNames y_inlined y_number nn y_family y_vMethod y_vLine y_vHeld y_put := fun y =>
      ih (i + 1) fu nn (by omega) (by omega) (fun m hm => by rw [a m hm, show na_it C M R y_ancestors y_home y_name y_ruleClasses y_ruleNames y_named y_namedMethods (i + 1) = na_it C M R y_ancestors y_home y_name y_ruleClasses y_ruleNames y_named y_namedMethods i from if_neg y])
    rw [wY_rename_75]
    refine br_f (by rw [hM]; exact nI_ge (by omega) (by omega)) (yR_b hl (by omega) (fun b1 => ⟨vp_in_nI (by omega) (by decide), ?_⟩) (fun y => nm_r (nI_1 i) (sk (fun q => y q.1))))
    rw [nI_c (show i < 10000 by omega), hf i (by omega)]
    refine pk_eq (kn_f C M y_ancestors y_home y_name y_named y_namedMethods i) i (fun b2 => ⟨vp_in_nI (by omega) (by decide), br_c (fun y => ?_) (fun y => nm_r (nI_1 i) (sk (fun q => ?_)))⟩) (fun y => nm_r (nI_1 i) (sk (fun q => y q.2.1)))
    · have nk : ¬ kp_p C M R y_ancestors y_home y_name y_ruleClasses y_ruleNames y_named y_namedMethods i := fun kp => by
        obtain ⟨n, n10, en⟩ := hnn i hi
        rw [ok.2.2.2.1 i hi kp, en] at y
        exact nI_pos (by omega) y
      obtain ⟨l30, ntk⟩ := na_tkS h30 hi ok0 nk
      obtain ⟨n0, n30, ntn⟩ := na_30 h30 hi ok0 nk
      have below := (le_x ntn).2.1
      have wl : ∀ q n g, n + q = le_o (na_tk C M y_ancestors y_home y_name y_named y_namedMethods (na_it C M R y_ancestors y_home y_name y_ruleClasses y_ruleNames y_named y_namedMethods i) i) → q < g → wY_rename_115 post (wY_rename_75 post y_classes y_methods y_rules y_place y_named y_made y_namedMethods y_live y_built y_depth y_steps y_outs y_ending fu) (nI i) y_classes y_methods y_rules y_place y_named y_made y_namedMethods y_live y_built y_depth y_steps y_outs y_ending y_isInterface y_isAbstract y_parent y_ancestors y_own y_many y_home y_name y_length y_op y_first y_second y_ruleKind y_ruleClasses y_ruleNames y_inlined y_number nn y_family y_vMethod y_vLine y_vHeld y_put g (nI n) := by
        intro q
        induction q with
        | zero =>
          intro n g' e hg
          obtain ⟨g', rfl⟩ : ∃ q, g' = q + 1 := ⟨g' - 1, by omega⟩
          have e : n = le_o (na_tk C M y_ancestors y_home y_name y_named y_namedMethods (na_it C M R y_ancestors y_home y_name y_ruleClasses y_ruleNames y_named y_namedMethods i) i) := by omega
          rw [wY_rename_115]
          refine yT_b h10 g hl hC hM hf hi (by omega) ok (fun t => ?_) (fun _ => ⟨vp_in_nI (by omega) (by decide), ?_⟩)
          · rw [e] at t
            exact absurd ((tke _).mp t) ntk
          · rw [nI_c (show i < 10000 by omega), e]
            refine nm_e (nm_r (nI_1 i) (ih (i + 1) fu _ (by omega) (by omega) (fun m hm => ?_)))
            rw [show na_it C M R y_ancestors y_home y_name y_ruleClasses y_ruleNames y_named y_namedMethods (i + 1) = upd (na_it C M R y_ancestors y_home y_name y_ruleClasses y_ruleNames y_named y_namedMethods i) i (nI (le_o (na_tk C M y_ancestors y_home y_name y_named y_namedMethods (na_it C M R y_ancestors y_home y_name y_ruleClasses y_ruleNames y_named y_namedMethods i) i))) from if_pos ⟨b1, b2, nk⟩]
            by_cases c : m = i
            · subst c; rw [pk_us, pk_us]
            · rw [pk_un c, pk_un c]; exact a m hm
        | succ q ih2 =>
          intro n g' e hg
          obtain ⟨g', rfl⟩ : ∃ q, g' = q + 1 := ⟨g' - 1, by omega⟩
          rw [wY_rename_115]
          exact yT_b h10 g hl hC hM hf hi (by omega) ok (fun _ => nm_r (nI_1 n) (ih2 (n + 1) g' (by omega) (by omega))) (fun y => absurd ((tke n).mpr (below n (by omega))) y)
      exact ⟨_, wl (le_o (na_tk C M y_ancestors y_home y_name y_named y_namedMethods (na_it C M R y_ancestors y_home y_name y_ruleClasses y_ruleNames y_named y_namedMethods i) i)) 0 (le_o (na_tk C M y_ancestors y_home y_name y_named y_namedMethods (na_it C M R y_ancestors y_home y_name y_ruleClasses y_ruleNames y_named y_namedMethods i) i) + 1) (by omega) (by omega)⟩
    · have := ok.2.2.1 i (Nat.le_refl i) hi q.2.2
      rw [this] at y
      exact y (by decide)
theorem yA_v {chn xform xname xlen xop xcl xnu xsm xsl xca : Nat → Int32} (T : tp_p C M R y_isInterface y_ancestors y_own chn y_parent y_many y_home y_ruleKind y_ruleClasses y_ruleNames xform xname xlen y_isAbstract y_name y_length xop xcl xnu xsm xsl xca y_op y_first y_second) (hl : ss_le y_live y_namedMethods) (hC : y_classes = nI C) (hM : y_methods = nI M) (hR : y_rules = nI R) (hf : (∀ m, m < M → y_family m = nI (kn_f C M y_ancestors y_home y_name y_named y_namedMethods m))) {post : SY → Prop}
    (K : ∀ nn, (∀ m, m < M → nn m = na_it C M R y_ancestors y_home y_name y_ruleClasses y_ruleNames y_named y_namedMethods M m) → post (y_classes, y_methods, y_rules, y_place, y_named, y_made, y_namedMethods, y_live, y_built, y_depth, y_steps, y_outs, y_ending, y_isInterface, y_isAbstract, y_parent, y_ancestors, y_own, y_many, y_home, y_name, y_length, y_op, y_first, y_second, y_ruleKind, y_ruleClasses, y_ruleNames, y_inlined, y_number, nn, y_family, y_vMethod, y_vLine, y_vHeld, y_put)) : wpY_rename post (y_classes, y_methods, y_rules, y_place, y_named, y_made, y_namedMethods, y_live, y_built, y_depth, y_steps, y_outs, y_ending, y_isInterface, y_isAbstract, y_parent, y_ancestors, y_own, y_many, y_home, y_name, y_length, y_op, y_first, y_second, y_ruleKind, y_ruleClasses, y_ruleNames, y_inlined, y_number, y_newName, y_family, y_vMethod, y_vLine, y_vHeld, y_put) := by
  have h30 := T.2.2.1.1
  have h10 := T.1.1
  have kl := kn_le (C := C) (M := M) (anc := y_ancestors) (hom := y_home) (nam := y_name) (N := y_named) (Q := y_namedMethods)
  have hnn : ∀ m, m < M → ∃ n, n < 10 ∧ y_name m = nI n := fun m hm => by
    obtain ⟨⟨n, n10, _, e⟩, _⟩ := T.2.2.2.1 m hm
    exact ⟨n, n10, e⟩
  have ru : ∀ m, (∃ r, r < R ∧ ¬ (2 : Int32) ≤ y_ruleKind r ∧ bt (y_ruleClasses r) (hq_t (y_home m)) = true ∧ bt (y_ruleNames r) (hq_t (y_name m)) = true) ↔ ru_p R y_home y_name y_ruleClasses y_ruleNames m := fun m => by
    constructor
    · rintro ⟨r, hr, _, b⟩; exact ⟨r, hr, b⟩
    · rintro ⟨r, hr, b⟩
      refine ⟨r, hr, ?_, b⟩
      rcases T.2.2.2.2.2.2.2 r hr with e | e <;> rw [e] <;> decide
  have lo2 : ∀ q i fu nn, i + q = M → q < fu → (∀ h, h < M → ((∃ m, m < i ∧ bt y_namedMethods m = true ∧ ru_p R y_home y_name y_ruleClasses y_ruleNames m ∧ kn_f C M y_ancestors y_home y_name y_named y_namedMethods m = h) → nn h = y_name h) ∧ (¬ (∃ m, m < i ∧ bt y_namedMethods m = true ∧ ru_p R y_home y_name y_ruleClasses y_ruleNames m ∧ kn_f C M y_ancestors y_home y_name y_named y_namedMethods m = h) → nn h = -1)) →
      wY_rename_25 post y_classes y_methods y_rules y_place y_named y_made y_namedMethods y_live y_built y_depth y_steps y_outs y_ending fu (nI i) y_isInterface y_isAbstract y_parent y_ancestors y_own y_many y_home y_name y_length y_op y_first y_second y_ruleKind y_ruleClasses y_ruleNames y_inlined y_number nn y_family y_vMethod y_vLine y_vHeld y_put := by
    intro q
    induction q with
    | zero =>
      intro i fu nn e hfu z
      obtain ⟨fu, rfl⟩ : ∃ q, fu = q + 1 := ⟨fu - 1, by omega⟩
      have e : i = M := by omega
      subst e
      rw [wY_rename_25]
      refine br_t (by rw [hM]; exact nI_le (by omega) (by omega)) ⟨i + 1, yA_b h10 T.2.2.1 hl hC hM hf hnn K i 0 (i + 1) nn (by omega) (by omega) (fun m hm => ?_)⟩
      by_cases k : kp_p C i R y_ancestors y_home y_name y_ruleClasses y_ruleNames y_named y_namedMethods m
      · rw [(z m hm).1 k]; exact (if_pos k).symm
      · rw [(z m hm).2 k]; exact (if_neg k).symm
    | succ q ih =>
      intro i fu nn e hfu z
      obtain ⟨fu, rfl⟩ : ∃ q, fu = q + 1 := ⟨fu - 1, by omega⟩
      have kli := kl i
      have nx : ¬ (bt y_namedMethods i = true ∧ ru_p R y_home y_name y_ruleClasses y_ruleNames i) → wY_rename_25 post y_classes y_methods y_rules y_place y_named y_made y_namedMethods y_live y_built y_depth y_steps y_outs y_ending fu (nI (i + 1)) y_isInterface y_isAbstract y_parent y_ancestors y_own y_many y_home y_name y_length y_op y_first y_second y_ruleKind y_ruleClasses y_ruleNames y_inlined y_number nn y_family y_vMethod y_vLine y_vHeld y_put := fun y => ih (i + 1) fu nn (by omega) (by omega) (fun h hh => ⟨fun ⟨m, hm, b⟩ => by
          rcases Nat.lt_or_ge m i with w | w
          · exact (z h hh).1 ⟨m, w, b⟩
          · have : m = i := by omega
            subst this; exact absurd ⟨b.1, b.2.1⟩ y, fun n => (z h hh).2 (fun ⟨m, hm, b⟩ => n ⟨m, by omega, b⟩)⟩)
      rw [wY_rename_25]
      refine br_f (by rw [hM]; exact nI_ge (by omega) (by omega)) (yR_b hl (by omega) (fun y => yu_b T hR (by omega) (fun x => ⟨vp_in_nI (by omega) (by decide), vp_in_nI (by omega) (by decide), ?_⟩) (fun x => nm_r (nI_1 i) (nx (fun q => x ((ru i).mpr q.2))))) (fun y => nm_r (nI_1 i) (nx (fun q => y q.1))))
      rw [nI_c (show i < 10000 by omega), hf i (by omega), nI_c (show kn_f C M y_ancestors y_home y_name y_named y_namedMethods i < 10000 by omega)]
      have nmi := kn_nm (C := C) (M := M) (anc := y_ancestors) (hom := y_home) (nam := y_name) (N := y_named) (Q := y_namedMethods) i
      refine ⟨vp_in_nI (by omega) (by decide), nm_e (nm_r (nI_1 i) (ih (i + 1) fu _ (by omega) (by omega) (fun h hh => ⟨fun ⟨m, hm, b⟩ => ?_, fun n => ?_⟩)))⟩
      · by_cases c : h = kn_f C M y_ancestors y_home y_name y_named y_namedMethods i
        · rw [c, pk_us]; exact nmi.symm
        · rw [pk_un c]
          rcases Nat.lt_or_ge m i with w | w
          · exact (z h hh).1 ⟨m, w, b⟩
          · have : m = i := by omega
            subst this; exact absurd b.2.2.symm c
      · have c : ¬ h = kn_f C M y_ancestors y_home y_name y_named y_namedMethods i := fun w => n ⟨i, by omega, y, (ru i).mp x, w.symm⟩
        rw [pk_un c]
        exact (z h hh).2 (fun ⟨m, hm, b⟩ => n ⟨m, by omega, b⟩)
  have lo1 : ∀ q i fu nn, i + q = M → q < fu → (∀ h, h < i → nn h = -1) → wY_rename_2 post y_classes y_methods y_rules y_place y_named y_made y_namedMethods y_live y_built y_depth y_steps y_outs y_ending fu (nI i) y_isInterface y_isAbstract y_parent y_ancestors y_own y_many y_home y_name y_length y_op y_first y_second y_ruleKind y_ruleClasses y_ruleNames y_inlined y_number nn y_family y_vMethod y_vLine y_vHeld y_put := by
    intro q
    induction q with
    | zero =>
      intro i fu nn e hfu z
      obtain ⟨fu, rfl⟩ : ∃ q, fu = q + 1 := ⟨fu - 1, by omega⟩
      have e : i = M := by omega
      subst e
      rw [wY_rename_2]
      exact br_t (by rw [hM]; exact nI_le (by omega) (by omega)) ⟨i + 1, lo2 i 0 (i + 1) nn (by omega) (by omega) (fun h hh => ⟨fun ⟨m, hm, _⟩ => by omega, fun _ => z h hh⟩)⟩
    | succ q ih =>
      intro i fu nn e hfu z
      obtain ⟨fu, rfl⟩ : ∃ q, fu = q + 1 := ⟨fu - 1, by omega⟩
      rw [wY_rename_2]
      refine br_f (by rw [hM]; exact nI_ge (by omega) (by omega)) ⟨vp_in_nI (by omega) (by decide), ?_⟩
      rw [nI_c (show i < 10000 by omega)]
      refine nm_e (nm_r (nI_1 i) (ih (i + 1) fu _ (by omega) (by omega) (fun h hh => ?_)))
      by_cases c : h = i
      · subst c; exact pk_us
      · rw [pk_un c]; exact z h (by omega)
  unfold wpY_rename
  exact ⟨M + 1, lo1 M 0 (M + 1) _ (by omega) (by omega) (fun h hh => by omega)⟩
end
