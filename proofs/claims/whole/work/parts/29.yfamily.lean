/-! ===== families: Y ===== -/
theorem bq_2 (x : Int32) {a b : Nat} (ha : a < 32) (hb : b < 32) : x &&& (((1 : Int32) <<< (nI a &&& 31)) ||| ((1 : Int32) <<< (nI b &&& 31))) = (((1 : Int32) <<< (nI a &&& 31)) ||| ((1 : Int32) <<< (nI b &&& 31))) ↔ bt x a = true ∧ bt x b = true := by
  constructor
  · intro h
    have k : ∀ i, (i = a ∨ i = b) → bt x i = true := fun i hi => by
      have e : bt (x &&& (((1 : Int32) <<< (nI a &&& 31)) ||| ((1 : Int32) <<< (nI b &&& 31)))) i = true := by
        rw [h, b_or, bq_1 ha, bq_1 hb, Bool.or_eq_true, decide_eq_true_eq, decide_eq_true_eq]; exact hi
      rw [b_and, Bool.and_eq_true] at e
      exact e.1
    exact ⟨k a (Or.inl rfl), k b (Or.inr rfl)⟩
  · rintro ⟨h1, h2⟩
    apply b_ext
    intro i _
    rw [b_and, b_or, bq_1 ha, bq_1 hb]
    by_cases c : i = a
    · subst c; rw [h1]; exact Bool.true_and _
    · by_cases d : i = b
      · subst d; rw [h2]; exact Bool.true_and _
      · rw [decide_eq_false c, decide_eq_false d]; exact Bool.and_false _
theorem ps_lt {f g : Nat → Nat} : ∀ {n i : Nat}, i < n → g i < f i → (∀ j, j ≠ i → g j = f j) → ps_n g n < ps_n f n
  | 0, i, h, _, _ => by omega
  | n + 1, i, h, l, e => by
    show ps_n g n + g n < ps_n f n + f n
    by_cases c : i = n
    · subst c
      have : ps_n g i = ps_n f i := ps_c (fun y hy => e y (by omega))
      omega
    · have := ps_lt (n := n) (by omega) l e
      have := e n (by omega)
      omega
section
variable {y_classes y_methods y_rules y_place y_named y_made y_namedMethods y_live y_built y_depth y_steps y_outs y_ending : Int32} {y_isInterface y_isAbstract y_parent y_ancestors y_own y_many y_home y_name y_length y_op y_first y_second y_ruleKind y_ruleClasses y_ruleNames y_inlined y_number y_newName y_family y_vMethod y_vLine y_vHeld y_put : Nat → Int32} {C M R : Nat}
theorem yR_b (hl : ss_le y_live y_namedMethods) {A B : Prop} {m : Nat} (hm : m < 32) (t : bt y_namedMethods m = true → B) (f : ¬ bt y_namedMethods m = true → A) : wpY_remains (fun z => (z = 0 → A) ∧ (¬ z = 0 → B)) (y_classes, y_methods, y_rules, y_place, y_named, y_made, y_namedMethods, y_live, y_built, y_depth, y_steps, y_outs, y_ending, y_isInterface, y_isAbstract, y_parent, y_ancestors, y_own, y_many, y_home, y_name, y_length, y_op, y_first, y_second, y_ruleKind, y_ruleClasses, y_ruleNames, y_inlined, y_number, y_newName, y_family, y_vMethod, y_vLine, y_vHeld, y_put) (nI m) := by
  unfold wpY_remains
  dsimp only
  refine yb_p hm (fun z => ⟨rfl, br_1 (t ?_)⟩) (fun z => ⟨rfl, br_0 (f (fun q => z ?_))⟩)
  · rw [b_or, Bool.or_eq_true] at z
    exact z.elim (fun q => q) (fun q => hl m q)
  · rw [b_or, q]; rfl
theorem yM_b (h10 : C ≤ 10) (g : mh_ok C M y_home) (hC : y_classes = nI C) {A B : Prop} {p q : Nat} (hp : p < M) (hq : q < M) (en : y_name p = y_name q) (bp : bt y_namedMethods p = true) (bq : bt y_namedMethods q = true) (t : kn_p C M y_ancestors y_home y_name y_named y_namedMethods p q → B) (f : ¬ kn_p C M y_ancestors y_home y_name y_named y_namedMethods p q → A) :
    wpY_meet (fun z => (z = 0 → A) ∧ (¬ z = 0 → B)) (y_classes, y_methods, y_rules, y_place, y_named, y_made, y_namedMethods, y_live, y_built, y_depth, y_steps, y_outs, y_ending, y_isInterface, y_isAbstract, y_parent, y_ancestors, y_own, y_many, y_home, y_name, y_length, y_op, y_first, y_second, y_ruleKind, y_ruleClasses, y_ruleNames, y_inlined, y_number, y_newName, y_family, y_vMethod, y_vLine, y_vHeld, y_put) (nI p) (nI q) := by
  have h30 := g.1
  obtain ⟨op, lp⟩ := mh_h g h10 hp
  obtain ⟨oq, lq⟩ := mh_h g h10 hq
  unfold wpY_meet
  dsimp only
  rw [nI_c (show p < 10000 by omega), nI_c (show q < 10000 by omega), op, oq]
  refine ⟨vp_in_nI (by omega) (by decide), vp_in_nI (by omega) (by decide), nm_e ⟨C + 1, ?_⟩⟩
  have lo : ∀ k i g, i + k = C → k < g → (¬ ∃ d, d < i ∧ bt y_named d = true ∧ bt (y_ancestors d) (hq_t (y_home p)) = true ∧ bt (y_ancestors d) (hq_t (y_home q)) = true) →
      wY_meet_21 (fun z => (z = 0 → A) ∧ (¬ z = 0 → B)) (((1 : Int32) <<< (nI (hq_t (y_home p)) &&& 31)) ||| ((1 : Int32) <<< (nI (hq_t (y_home q)) &&& 31))) y_classes y_methods y_rules y_place y_named y_made y_namedMethods y_live y_built y_depth y_steps y_outs y_ending y_isInterface y_isAbstract y_parent y_ancestors y_own y_many y_home y_name y_length y_op y_first y_second y_ruleKind y_ruleClasses y_ruleNames y_inlined y_number y_newName y_family y_vMethod y_vLine y_vHeld y_put g (nI i) := by
    intro k
    induction k with
    | zero =>
      intro i g e hg z
      obtain ⟨g, rfl⟩ : ∃ q, g = q + 1 := ⟨g - 1, by omega⟩
      have e : i = C := by omega
      subst e
      rw [wY_meet_21]
      exact br_t (by rw [hC]; exact nI_le (by omega) (by omega)) (br_0 (f (fun k => z k.2.2.2.2.2)))
    | succ k ih =>
      intro i g e hg z
      obtain ⟨g, rfl⟩ : ∃ q, g = q + 1 := ⟨g - 1, by omega⟩
      have nx : ¬ (bt y_named i = true ∧ bt (y_ancestors i) (hq_t (y_home p)) = true ∧ bt (y_ancestors i) (hq_t (y_home q)) = true) → wY_meet_21 (fun z => (z = 0 → A) ∧ (¬ z = 0 → B)) (((1 : Int32) <<< (nI (hq_t (y_home p)) &&& 31)) ||| ((1 : Int32) <<< (nI (hq_t (y_home q)) &&& 31))) y_classes y_methods y_rules y_place y_named y_made y_namedMethods y_live y_built y_depth y_steps y_outs y_ending y_isInterface y_isAbstract y_parent y_ancestors y_own y_many y_home y_name y_length y_op y_first y_second y_ruleKind y_ruleClasses y_ruleNames y_inlined y_number y_newName y_family y_vMethod y_vLine y_vHeld y_put g (nI (i + 1)) := fun y =>
        ih (i + 1) g (by omega) (by omega) (fun ⟨d, hd, w⟩ => by
          rcases Nat.lt_or_ge d i with u | u
          · exact z ⟨d, u, w⟩
          · have : d = i := by omega
            subst this; exact y w)
      rw [wY_meet_21]
      refine br_f (by rw [hC]; exact nI_ge (by omega) (by omega)) (yb_b (by omega) (fun y => ⟨vp_in_nI (by omega) (by decide), ?_⟩) (fun y => nm_r (nI_1 i) (nx (fun k => y k.1))))
      rw [nI_c (show i < 10000 by omega)]
      exact ek_if (bq_2 _ (by omega) (by omega)) (fun x => br_1 (t ⟨hp, hq, bp, bq, en, i, by omega, y, x.1, x.2⟩)) (fun x => nm_r (nI_1 i) (nx (fun k => x k.2)))
  exact lo C 0 (C + 1) (by omega) (by omega) (fun ⟨d, hd, _⟩ => by omega)
theorem yJ_r (h10 : C ≤ 10) (g : mh_ok C M y_home) (hl : ss_le y_live y_namedMethods) (hC : y_classes = nI C) (hM : y_methods = nI M) {post : SY → Prop} {J25 : Int32 → (Nat → Int32) → (Nat → Int32) → (Nat → Int32) → (Nat → Int32) → (Nat → Int32) → (Nat → Int32) → (Nat → Int32) → (Nat → Int32) → (Nat → Int32) → (Nat → Int32) → (Nat → Int32) → (Nat → Int32) → (Nat → Int32) → (Nat → Int32) → (Nat → Int32) → (Nat → Int32) → (Nat → Int32) → (Nat → Int32) → (Nat → Int32) → (Nat → Int32) → (Nat → Int32) → (Nat → Int32) → (Nat → Int32) → Prop} {f0 : Nat → Int32}
    (K : ∀ fa j, fy_p (kn_p C M y_ancestors y_home y_name y_named y_namedMethods) M fa → (j = 0 ∧ fa = f0 ∧ (∀ p q, kn_p C M y_ancestors y_home y_name y_named y_namedMethods p q → hq_t (fa q) ≤ hq_t (fa p)) ∨ j = 1 ∧ ps_n (fun m => hq_t (fa m)) M < ps_n (fun m => hq_t (f0 m)) M) → J25 j y_isInterface y_isAbstract y_parent y_ancestors y_own y_many y_home y_name y_length y_op y_first y_second y_ruleKind y_ruleClasses y_ruleNames y_inlined y_number y_newName fa y_vMethod y_vLine y_vHeld y_put) :
    ∀ n i f fa j, i + n = M * M → n < f → fy_p (kn_p C M y_ancestors y_home y_name y_named y_namedMethods) M fa → (j = 0 ∧ fa = f0 ∧ (∀ p q, p * M + q < i → q < M → kn_p C M y_ancestors y_home y_name y_named y_namedMethods p q → hq_t (fa q) ≤ hq_t (fa p)) ∨ j = 1 ∧ ps_n (fun m => hq_t (fa m)) M < ps_n (fun m => hq_t (f0 m)) M) →
      wY_families_33 post J25 y_classes y_methods y_rules y_place y_named y_made y_namedMethods y_live y_built y_depth y_steps y_outs y_ending f j (nI i) y_isInterface y_isAbstract y_parent y_ancestors y_own y_many y_home y_name y_length y_op y_first y_second y_ruleKind y_ruleClasses y_ruleNames y_inlined y_number y_newName fa y_vMethod y_vLine y_vHeld y_put := by
  have h30 := g.1
  have hMM : M * M ≤ 900 := Nat.mul_le_mul h30 h30
  intro n
  induction n with
  | zero =>
    intro i f fa j e hf a1 a2
    obtain ⟨f, rfl⟩ : ∃ q, f = q + 1 := ⟨f - 1, by omega⟩
    have e : i = M * M := by omega
    subst e
    rw [wY_families_33]
    refine br_t (by rw [hM, pk_mul]; exact nI_le (by omega) (by omega)) (K fa j a1 ?_)
    rcases a2 with ⟨z1, z2, z3⟩ | z
    · refine Or.inl ⟨z1, z2, fun p q k => z3 p q ?_ k.2.1 k⟩
      have h1 := k.1
      have h2 := k.2.1
      calc p * M + q < p * M + M := by omega
        _ = (p + 1) * M := by rw [Nat.add_mul, Nat.one_mul]
        _ ≤ M * M := Nat.mul_le_mul_right M h1
    · exact Or.inr z
  | succ n ih =>
    intro i f fa j e hf a1 a2
    obtain ⟨f, rfl⟩ : ∃ q, f = q + 1 := ⟨f - 1, by omega⟩
    have M0 : 0 < M := by
      rcases Nat.eq_zero_or_pos M with z | z
      · subst z; omega
      · exact z
    have hi : i < M * M := by omega
    have pM : i / M < M := (Nat.div_lt_iff_lt_mul M0).mpr hi
    have qM : i % M < M := Nat.mod_lt i M0
    have dm : i / M * M + i % M = i := by rw [Nat.mul_comm]; exact Nat.div_add_mod i M
    have nx : (kn_p C M y_ancestors y_home y_name y_named y_namedMethods (i / M) (i % M) → hq_t (fa (i % M)) ≤ hq_t (fa (i / M))) → wY_families_33 post J25 y_classes y_methods y_rules y_place y_named y_made y_namedMethods y_live y_built y_depth y_steps y_outs y_ending f j (nI (i + 1)) y_isInterface y_isAbstract y_parent y_ancestors y_own y_many y_home y_name y_length y_op y_first y_second y_ruleKind y_ruleClasses y_ruleNames y_inlined y_number y_newName fa y_vMethod y_vLine y_vHeld y_put := fun y =>
      ih (i + 1) f fa j (by omega) (by omega) a1 (by
        rcases a2 with ⟨z1, z2, z3⟩ | z
        · refine Or.inl ⟨z1, z2, fun p q hpq hq k => ?_⟩
          rcases Nat.lt_or_ge (p * M + q) i with w | w
          · exact z3 p q w hq k
          · have ei : p * M + q = i := by omega
            have e1 : i / M = p := by
              rw [← ei, Nat.mul_comm, Nat.mul_add_div M0, Nat.div_eq_of_lt hq, Nat.add_zero]
            have e2 : i % M = q := by
              rw [← ei, Nat.mul_comm, Nat.mul_add_mod, Nat.mod_eq_of_lt hq]
            rw [e1, e2] at y
            exact y k
        · exact Or.inr z)
    obtain ⟨v1, v2, v3⟩ := fy_v h30 a1 (m := i / M) pM
    obtain ⟨w1, w2, w3⟩ := fy_v h30 a1 (m := i % M) qM
    have nM : ¬ y_methods = 0 := by rw [hM]; exact nI_ne0 M0 (by omega)
    have dv : nI i / y_methods = nI (i / M) := by rw [hM]; exact pk_div (by omega) M0 (by omega)
    have rm : nI i - nI i / y_methods * y_methods = nI (i % M) := by rw [hM]; exact pk_rem (by omega) M0 (by omega)
    rw [wY_families_33]
    refine br_f (by rw [hM, pk_mul]; exact nI_ge (by omega) (by omega)) ⟨nM, nm_r dv ⟨nM, nm_r rm ?_⟩⟩
    refine yR_b hl (by omega) (fun bp => yR_b hl (by omega) (fun bq => ⟨vp_in_nI (by omega) (by decide), vp_in_nI (by omega) (by decide), ?_⟩) (fun z => nm_r (nI_1 i) (nx (fun k => absurd k.2.2.2.1 z)))) (fun z => nm_r (nI_1 i) (nx (fun k => absurd k.2.2.1 z)))
    rw [nI_c (show i / M < 10000 by omega), nI_c (show i % M < 10000 by omega)]
    refine br_c (fun en => ⟨vp_in_nI (by omega) (by decide), vp_in_nI (by omega) (by decide), ?_⟩) (fun z => nm_r (nI_1 i) (nx (fun k => absurd k.2.2.2.2.1 z)))
    refine pk_le (hq_t (fa (i % M))) (hq_t (fa (i / M))) (fun y => nm_r (nI_1 i) (nx (fun _ => y))) (fun y => ?_) w1 v1
    refine yM_b h10 g hC pM qM en bp bq (fun k => ⟨vp_in_nI (by omega) (by decide), vp_in_nI (by omega) (by decide), ?_⟩) (fun k => nm_r (nI_1 i) (nx (fun q => absurd q k)))
    refine nm_e (nm_r (nI_1 i) (ih (i + 1) f _ 1 (by omega) (by omega) (fun m hm => ?_) (Or.inr ⟨rfl, ?_⟩)))
    · by_cases c : m = i % M
      · subst c
        rw [pk_us]
        exact ⟨hq_t (fa (i / M)), v1, by omega, fa_ct (fa_cs (fa_ck k)) v3⟩
      · rw [pk_un c]; exact a1 m hm
    · have lt : ps_n (fun m => hq_t (upd fa (i % M) (fa (i / M)) m)) M < ps_n (fun m => hq_t (fa m)) M := ps_lt (i := i % M) qM (by
        show hq_t (upd fa (i % M) (fa (i / M)) (i % M)) < hq_t (fa (i % M))
        rw [pk_us]; exact y) (fun m c => by
        show hq_t (upd fa (i % M) (fa (i / M)) m) = hq_t (fa m)
        rw [pk_un c])
      rcases a2 with ⟨_, z2, _⟩ | ⟨_, z2⟩
      · rw [← z2]; exact lt
      · omega
theorem yJ_v (h10 : C ≤ 10) (g : mh_ok C M y_home) (hl : ss_le y_live y_namedMethods) (hC : y_classes = nI C) (hM : y_methods = nI M) {post : SY → Prop}
    (K : ∀ fa, (∀ m, m < M → fa m = nI (kn_f C M y_ancestors y_home y_name y_named y_namedMethods m)) → post (y_classes, y_methods, y_rules, y_place, y_named, y_made, y_namedMethods, y_live, y_built, y_depth, y_steps, y_outs, y_ending, y_isInterface, y_isAbstract, y_parent, y_ancestors, y_own, y_many, y_home, y_name, y_length, y_op, y_first, y_second, y_ruleKind, y_ruleClasses, y_ruleNames, y_inlined, y_number, y_newName, fa, y_vMethod, y_vLine, y_vHeld, y_put)) : wpY_families post (y_classes, y_methods, y_rules, y_place, y_named, y_made, y_namedMethods, y_live, y_built, y_depth, y_steps, y_outs, y_ending, y_isInterface, y_isAbstract, y_parent, y_ancestors, y_own, y_many, y_home, y_name, y_length, y_op, y_first, y_second, y_ruleKind, y_ruleClasses, y_ruleNames, y_inlined, y_number, y_newName, y_family, y_vMethod, y_vLine, y_vHeld, y_put) := by
  have h30 := g.1
  have hMM : M * M ≤ 900 := Nat.mul_le_mul h30 h30
  have lo : ∀ s f fa, ps_n (fun m => hq_t (fa m)) M = s → s + 1 < f → fy_p (kn_p C M y_ancestors y_home y_name y_named y_namedMethods) M fa → wY_families_25 post y_classes y_methods y_rules y_place y_named y_made y_namedMethods y_live y_built y_depth y_steps y_outs y_ending f 1 y_isInterface y_isAbstract y_parent y_ancestors y_own y_many y_home y_name y_length y_op y_first y_second y_ruleKind y_ruleClasses y_ruleNames y_inlined y_number y_newName fa y_vMethod y_vLine y_vHeld y_put := by
    intro s
    induction s using Nat.strongRecOn with
    | ind s ih =>
      intro f fa es hf a1
      obtain ⟨f, rfl⟩ : ∃ q, f = q + 1 := ⟨f - 1, by omega⟩
      rw [wY_families_25]
      refine br_f (by decide) ⟨M * M + 1, ?_⟩
      refine yJ_r h10 g hl hC hM (f0 := fa) (fun fa' j b1 b2 => ?_) (M * M) 0 _ fa 0 (by omega) (by omega) a1 (Or.inl ⟨rfl, rfl, fun p q h => by omega⟩)
      rcases b2 with ⟨z1, z2, z3⟩ | ⟨z1, z2⟩
      · subst z1
        obtain ⟨f, rfl⟩ : ∃ q, f = q + 1 := ⟨f - 1, by omega⟩
        rw [wY_families_25]
        refine br_t rfl (K fa' (fun m hm => ?_))
        have s := fa_st (kin := kn_p C M y_ancestors y_home y_name y_named y_namedMethods) (fam := fw_f M fa') (fun a b k => by
          have x1 := z3 a b k
          have x2 := z3 b a (kn_sy a b k)
          rw [fw_i k.1, fw_i k.2.1]; omega) (fw_c h30 b1) (fw_l h30 b1) m
        rw [fw_i hm] at s
        rw [(fy_v h30 b1 hm).1, s]; rfl
      · subst z1
        exact ih _ (by omega) f fa' rfl (by omega) b1
  have st : ∀ n i f fa, i + n = M → n < f → (∀ m, m < i → fa m = nI m) → wY_families_2 post y_classes y_methods y_rules y_place y_named y_made y_namedMethods y_live y_built y_depth y_steps y_outs y_ending f (nI i) y_isInterface y_isAbstract y_parent y_ancestors y_own y_many y_home y_name y_length y_op y_first y_second y_ruleKind y_ruleClasses y_ruleNames y_inlined y_number y_newName fa y_vMethod y_vLine y_vHeld y_put := by
    intro n
    induction n with
    | zero =>
      intro i f fa e hf z
      obtain ⟨f, rfl⟩ : ∃ q, f = q + 1 := ⟨f - 1, by omega⟩
      have e : i = M := by omega
      subst e
      rw [wY_families_2]
      refine br_t (by rw [hM]; exact nI_le (by omega) (by omega)) ⟨ps_n (fun m => hq_t (fa m)) i + 2, ?_⟩
      exact lo _ _ fa rfl (by omega) (fun m hm => ⟨m, z m hm, Nat.le_refl m, fa_cr _ m⟩)
    | succ n ih =>
      intro i f fa e hf z
      obtain ⟨f, rfl⟩ : ∃ q, f = q + 1 := ⟨f - 1, by omega⟩
      rw [wY_families_2]
      refine br_f (by rw [hM]; exact nI_ge (by omega) (by omega)) ⟨vp_in_nI (by omega) (by decide), ?_⟩
      rw [nI_c (show i < 10000 by omega)]
      refine nm_e (nm_r (nI_1 i) (ih (i + 1) f _ (by omega) (by omega) (fun m hm => ?_)))
      by_cases c : m = i
      · subst c; exact pk_us
      · rw [pk_un c]; exact z m (by omega)
  unfold wpY_families
  exact ⟨M + 1, st M 0 (M + 1) _ (by omega) (by omega) (fun m hm => by omega)⟩
end
