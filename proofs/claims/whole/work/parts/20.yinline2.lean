/-! ===== Y's inlining: short methods, the loop over the lines ===== -/
section
variable {y_classes y_methods y_rules y_place y_named y_made y_namedMethods y_live y_built y_depth y_steps y_outs y_ending : Int32} {y_isInterface y_isAbstract y_parent y_ancestors y_own y_many y_home y_name y_length y_op y_first y_second y_ruleKind y_ruleClasses y_ruleNames y_inlined y_number y_newName y_family y_vMethod y_vLine y_vHeld y_put : Nat → Int32} {chn xform xname xlen xop xcl xnu xsm xsl xca : Nat → Int32} {C M R : Nat} {a b c d : Int32}
theorem yS_b (T : tp_p C M R y_isInterface y_ancestors y_own chn y_parent y_many y_home y_ruleKind y_ruleClasses y_ruleNames xform xname xlen y_isAbstract y_name y_length xop xcl xnu xsm xsl xca y_op y_first y_second) {A B : Prop} {t : Nat} (ht : t < M) (tr : sh_p y_length y_op t → B) (fa : ¬ sh_p y_length y_op t → A) : wpY_isShort (fun z => (z = 0 → A) ∧ (¬ z = 0 → B)) (y_classes, y_methods, y_rules, y_place, y_named, y_made, y_namedMethods, y_live, y_built, y_depth, y_steps, y_outs, y_ending, y_isInterface, y_isAbstract, y_parent, y_ancestors, y_own, y_many, y_home, y_name, y_length, y_op, y_first, y_second, y_ruleKind, y_ruleClasses, y_ruleNames, y_inlined, y_number, y_newName, y_family, y_vMethod, y_vLine, y_vHeld, y_put) (nI t) := by
  have h30 := T.2.2.1.1
  obtain ⟨l1, l6⟩ := ty_len T ht
  have lo : ∀ q i f, i + q = hq_t (y_length t) → q < f → (∀ k, k < i → y_op (6 * t + k) = 0 ∨ y_op (6 * t + k) = 5) → wY_isShort_5 (fun z => (z = 0 → A) ∧ (¬ z = 0 → B)) (nI t) y_classes y_methods y_rules y_place y_named y_made y_namedMethods y_live y_built y_depth y_steps y_outs y_ending y_isInterface y_isAbstract y_parent y_ancestors y_own y_many y_home y_name y_length y_op y_first y_second y_ruleKind y_ruleClasses y_ruleNames y_inlined y_number y_newName y_family y_vMethod y_vLine y_vHeld y_put f (nI (6 * t + i)) := by
    intro q
    induction q with
    | zero =>
      intro i f e hf z
      obtain ⟨f, rfl⟩ : ∃ q, f = q + 1 := ⟨f - 1, by omega⟩
      rw [wY_isShort_5]
      refine ⟨vp_in_nI (by omega) (by decide), ?_⟩
      rw [nI_c (by omega), l1, nI_a6]
      refine br_t (nI_le (by omega) (by omega)) ⟨vp_in_nI (by omega) (by decide), pk_le 4 (hq_t (y_length t)) (fun y => br_0 (fa (fun q => by have := q.1; omega))) (fun y => br_1 (tr ⟨by omega, fun k hk => z k (by omega)⟩))⟩
    | succ q ih =>
      intro i f e hf z
      obtain ⟨f, rfl⟩ : ∃ q, f = q + 1 := ⟨f - 1, by omega⟩
      have nx : (y_op (6 * t + i) = 0 ∨ y_op (6 * t + i) = 5) → wY_isShort_5 (fun z => (z = 0 → A) ∧ (¬ z = 0 → B)) (nI t) y_classes y_methods y_rules y_place y_named y_made y_namedMethods y_live y_built y_depth y_steps y_outs y_ending y_isInterface y_isAbstract y_parent y_ancestors y_own y_many y_home y_name y_length y_op y_first y_second y_ruleKind y_ruleClasses y_ruleNames y_inlined y_number y_newName y_family y_vMethod y_vLine y_vHeld y_put f (nI (6 * t + i + 1)) := fun y =>
        ih (i + 1) f (by omega) (by omega) (fun k hk => by
          rcases Nat.lt_or_ge k i with v | v
          · exact z k v
          · have : k = i := by omega
            subst this; exact y)
      rw [wY_isShort_5]
      refine ⟨vp_in_nI (by omega) (by decide), ?_⟩
      rw [nI_c (show t < 10000 by omega), l1, nI_a6, nI_c (show 6 * t + i < 10000 by omega)]
      refine br_f (nI_ge (by omega) (by omega)) ⟨vp_in_nI (by omega) (by decide), br_c (fun y => nm_r (nI_1 _) (nx (Or.inl y))) (fun y => ⟨vp_in_nI (by omega) (by decide), br_c (fun x => nm_r (nI_1 _) (nx (Or.inr x))) (fun x => br_0 (fa (fun q => ?_)))⟩)⟩
      rcases q.2 i (by omega) with w | w
      · exact y w
      · exact x w
  unfold wpY_isShort
  dsimp only
  refine nm_r (nI_m6 t) ⟨hq_t (y_length t) + 1, ?_⟩
  exact lo (hq_t (y_length t)) 0 _ (by omega) (by omega) (fun k hk => by omega)
/-- one line of the loop -/
theorem yi_1 (T : tp_p C M R y_isInterface y_ancestors y_own chn y_parent y_many y_home y_ruleKind y_ruleClasses y_ruleNames xform xname xlen y_isAbstract y_name y_length xop xcl xnu xsm xsl xca y_op y_first y_second) (NF : ff_v C M y_isInterface y_ancestors chn y_home y_isAbstract y_name y_length y_op y_first y_second = none) (hC : y_classes = nI C) (hM : y_methods = nI M) {post : Int32 → SY → Prop} {J : Int32 → (Nat → Int32) → (Nat → Int32) → (Nat → Int32) → (Nat → Int32) → (Nat → Int32) → (Nat → Int32) → (Nat → Int32) → (Nat → Int32) → (Nat → Int32) → (Nat → Int32) → (Nat → Int32) → (Nat → Int32) → (Nat → Int32) → (Nat → Int32) → (Nat → Int32) → (Nat → Int32) → (Nat → Int32) → (Nat → Int32) → (Nat → Int32) → (Nat → Int32) → (Nat → Int32) → (Nat → Int32) → (Nat → Int32) → Prop} {m k : Nat} (hm : m < M) (hk : k < hq_t (y_length m)) (hl : bt y_live m = true)
    (o23 : y_op (6 * m + k) = 2 ∨ y_op (6 * m + k) = 3)
    (K : ∀ v, il_p C M y_ancestors chn y_home y_isAbstract y_name y_length y_op y_first y_second y_made y_live m k v → (v = -1 → J (nI (6 * m + k + 1)) y_isInterface y_isAbstract y_parent y_ancestors y_own y_many y_home y_name y_length y_op y_first y_second y_ruleKind y_ruleClasses y_ruleNames y_inlined y_number y_newName y_family y_vMethod y_vLine y_vHeld y_put) ∧ (¬ v = -1 → J (nI (6 * m + k + 1)) y_isInterface y_isAbstract y_parent y_ancestors y_own y_many y_home y_name y_length y_op y_first y_second y_ruleKind y_ruleClasses y_ruleNames (upd y_inlined (6 * m + k) v) y_number y_newName y_family y_vMethod y_vLine y_vHeld y_put)) :
    wY_build_113 post J (nI (6 * m + k)) y_classes y_methods y_rules y_place y_named y_made y_namedMethods y_live y_built y_depth y_steps y_outs y_ending y_isInterface y_isAbstract y_parent y_ancestors y_own y_many y_home y_name y_length y_op y_first y_second y_ruleKind y_ruleClasses y_ruleNames y_inlined y_number y_newName y_family y_vMethod y_vLine y_vHeld y_put := by
  have h10 := T.1.1
  have h30 := T.2.2.1.1
  have l6 := (ty_len T hm).2
  have e1 : (6 * m + k) / 6 = m := by omega
  obtain ⟨o, o6, ho, g1, g2⟩ := yl_c T NF hm hk
  have oo : o = 2 ∨ o = 3 := by
    rw [ho] at o23
    rcases o23 with z | z
    · exact Or.inl ((nI_eq (a := o) (b := 2) (by omega) (by omega)).mp z)
    · exact Or.inr ((nI_eq (a := o) (b := 3) (by omega) (by omega)).mp z)
  obtain ⟨q, hq, eq⟩ := g1 (by omega) (by omega)
  obtain ⟨g, eg⟩ := g2 oo
  have hqe : hq_t (nI q) = q := hq_e (by omega)
  have none : (∀ t, ¬ it_p C M y_ancestors chn y_home y_isAbstract y_name y_length y_op y_first y_second y_made y_live m k t) → J (nI (6 * m + k + 1)) y_isInterface y_isAbstract y_parent y_ancestors y_own y_many y_home y_name y_length y_op y_first y_second y_ruleKind y_ruleClasses y_ruleNames y_inlined y_number y_newName y_family y_vMethod y_vLine y_vHeld y_put := fun z => (K (-1) (Or.inl ⟨rfl, z⟩)).1 rfl
  unfold wY_build_113
  rw [eq, hqe] at eg
  refine yt_v T hC hM (by omega) o23 hq eq ⟨g, eg⟩ (fun g' o3 eg' => ?_) (fun t tM tt ta => ?_) (fun z => ?_)
  · obtain ⟨m', em', am'⟩ := fl_f (ff_n NF hm (by omega) hk) o23
    rw [eq, hqe, eg'] at em'
    have : g' = m' := by simpa using em'
    subst this; exact am' o3
  · refine br_f (nI_pos (by omega)) ⟨by decide, ?_⟩
    rw [nI_d6 (by omega), e1]
    refine pk_eq t m (fun z => nm_r (nI_1 _) (none (fun s hs => ?_))) (fun z => ?_)
    · rw [it_i] at hs
      have u : t = s := by
        rcases tt with ⟨p1, p2⟩ | ⟨p1, ⟨d, d1, d2, d3⟩, p2⟩
        · rcases hs.2.2.2.2.2.2 with ⟨r1, r2⟩ | ⟨r1, _, r2⟩
          · rw [p2] at r2; simpa using r2
          · rw [p1] at r1; exact absurd r1 (by decide)
        · rcases hs.2.2.2.2.2.2 with ⟨r1, r2⟩ | ⟨r1, _, r2⟩
          · rw [p1] at r1; exact absurd r1 (by decide)
          · have x := p2 d d1 d2 d3
            rw [r2 d d1 d2 d3] at x
            simpa using x.symm
      exact hs.2.2.2.1 (by omega)
    · refine yS_b T tM (fun sh => ⟨vp_in_nI (by omega) (by decide), ?_⟩) (fun sh => nm_r (nI_1 _) (none (fun s hs => ?_)))
      · rw [nI_c (by omega)]
        exact nm_e (nm_r (nI_1 _) ((K (nI t) (Or.inr ⟨t, rfl, it_i.mpr ⟨hl, hk, tM, z, ta, sh, tt⟩⟩)).2 (oI_n (by omega))))
      · rw [it_i] at hs
        have u : t = s := by
          rcases tt with ⟨p1, p2⟩ | ⟨p1, ⟨d, d1, d2, d3⟩, p2⟩
          · rcases hs.2.2.2.2.2.2 with ⟨r1, r2⟩ | ⟨r1, _, r2⟩
            · rw [p2] at r2; simpa using r2
            · rw [p1] at r1; exact absurd r1 (by decide)
          · rcases hs.2.2.2.2.2.2 with ⟨r1, r2⟩ | ⟨r1, _, r2⟩
            · rw [p1] at r1; exact absurd r1 (by decide)
            · have x := p2 d d1 d2 d3
              rw [r2 d d1 d2 d3] at x
              simpa using x.symm
        subst u
        exact sh hs.2.2.2.2.2.1
  · refine br_t (by decide) (nm_r (nI_1 _) (none (fun s hs => ?_)))
    rw [it_i] at hs
    exact z s hs.2.2.2.2.2.2 hs.2.2.2.2.1
theorem yi_l (T : tp_p C M R y_isInterface y_ancestors y_own chn y_parent y_many y_home y_ruleKind y_ruleClasses y_ruleNames xform xname xlen y_isAbstract y_name y_length xop xcl xnu xsm xsl xca y_op y_first y_second) (NF : ff_v C M y_isInterface y_ancestors chn y_home y_isAbstract y_name y_length y_op y_first y_second = none) (hC : y_classes = nI C) (hM : y_methods = nI M) {post : Int32 → SY → Prop}
    (K : ∀ inl, (∀ m k, m < M → k < 6 → il_p C M y_ancestors chn y_home y_isAbstract y_name y_length y_op y_first y_second y_made y_live m k (inl (6 * m + k))) → wY_build_49 post y_classes y_methods y_rules y_place y_named y_made y_namedMethods y_live y_built y_depth y_steps y_outs y_ending 1 (nI (6 * M)) y_isInterface y_isAbstract y_parent y_ancestors y_own y_many y_home y_name y_length y_op y_first y_second y_ruleKind y_ruleClasses y_ruleNames inl y_number y_newName y_family y_vMethod y_vLine y_vHeld y_put) :
    ∀ q i f inl, i + q = 6 * M → q < f → (∀ m k, m < M → k < 6 → 6 * m + k < i → il_p C M y_ancestors chn y_home y_isAbstract y_name y_length y_op y_first y_second y_made y_live m k (inl (6 * m + k))) ∧ (∀ j, i ≤ j → j < 180 → inl j = -1) → wY_build_49 post y_classes y_methods y_rules y_place y_named y_made y_namedMethods y_live y_built y_depth y_steps y_outs y_ending f (nI i) y_isInterface y_isAbstract y_parent y_ancestors y_own y_many y_home y_name y_length y_op y_first y_second y_ruleKind y_ruleClasses y_ruleNames inl y_number y_newName y_family y_vMethod y_vLine y_vHeld y_put := by
  have h30 := T.2.2.1.1
  intro q
  induction q with
  | zero =>
    intro i f inl e hf z
    obtain ⟨f, rfl⟩ : ∃ q, f = q + 1 := ⟨f - 1, by omega⟩
    have e : i = 6 * M := by omega
    subst e
    have k := K inl (fun m k hm hk => z.1 m k hm hk (by omega))
    rw [wY_build_49] at k ⊢
    have cnd : 6 * y_methods ≤ nI (6 * M) := by rw [hM, nI_m6]; exact nI_le (by omega) (by omega)
    exact br_t cnd (k.1 cnd)
  | succ q ih =>
    intro i f inl e hf z
    obtain ⟨f, rfl⟩ : ∃ q, f = q + 1 := ⟨f - 1, by omega⟩
    obtain ⟨m, k, k6, rfl⟩ : ∃ m k, k < 6 ∧ i = 6 * m + k := ⟨i / 6, i % 6, by omega, by omega⟩
    have hm : m < M := by omega
    have e1 : (6 * m + k) / 6 = m := by omega
    have e2 : (6 * m + k) % 6 = k := by omega
    obtain ⟨l1, l6⟩ := ty_len T hm
    have nx0 : il_p C M y_ancestors chn y_home y_isAbstract y_name y_length y_op y_first y_second y_made y_live m k (-1) → wY_build_49 post y_classes y_methods y_rules y_place y_named y_made y_namedMethods y_live y_built y_depth y_steps y_outs y_ending f (nI (6 * m + k + 1)) y_isInterface y_isAbstract y_parent y_ancestors y_own y_many y_home y_name y_length y_op y_first y_second y_ruleKind y_ruleClasses y_ruleNames inl y_number y_newName y_family y_vMethod y_vLine y_vHeld y_put := fun y =>
      ih _ f inl (by omega) (by omega) ⟨fun m' k' hm' hk' hl => by
        rcases Nat.lt_or_ge (6 * m' + k') (6 * m + k) with v | v
        · exact z.1 m' k' hm' hk' v
        · have a1 : m' = m := by omega
          have a2 : k' = k := by omega
          subst a1 a2
          rw [z.2 _ (by omega) (by omega)]; exact y, fun j h1 h2 => z.2 j (by omega) h2⟩
    have no : (∀ t, ¬ it_p C M y_ancestors chn y_home y_isAbstract y_name y_length y_op y_first y_second y_made y_live m k t) → wY_build_49 post y_classes y_methods y_rules y_place y_named y_made y_namedMethods y_live y_built y_depth y_steps y_outs y_ending f (nI (6 * m + k + 1)) y_isInterface y_isAbstract y_parent y_ancestors y_own y_many y_home y_name y_length y_op y_first y_second y_ruleKind y_ruleClasses y_ruleNames inl y_number y_newName y_family y_vMethod y_vLine y_vHeld y_put := fun y => nx0 (Or.inl ⟨rfl, y⟩)
    rw [wY_build_49]
    refine br_f (by rw [hM, nI_m6]; exact nI_ge (by omega) (by omega)) ⟨by decide, ?_⟩
    rw [nI_r6 (by omega), nI_d6 (by omega), e1, e2, nI_c (show m < 10000 by omega), nI_c (show 6 * m + k < 10000 by omega), l1]
    refine yb_b (by omega) (fun y => ⟨by decide, by decide, vp_in_nI (by omega) (by decide), pk_le (hq_t (y_length m)) k (fun x => nm_r (nI_1 _) (no (fun t ht => by have := ht.2.1; omega))) (fun kl => ⟨vp_in_nI (by omega) (by decide), ?_⟩)⟩) (fun y => nm_r (nI_1 _) (no (fun t ht => y ht.1)))
    have one : (y_op (6 * m + k) = 2 ∨ y_op (6 * m + k) = 3) → wY_build_113 post (wY_build_49 post y_classes y_methods y_rules y_place y_named y_made y_namedMethods y_live y_built y_depth y_steps y_outs y_ending f) (nI (6 * m + k)) y_classes y_methods y_rules y_place y_named y_made y_namedMethods y_live y_built y_depth y_steps y_outs y_ending y_isInterface y_isAbstract y_parent y_ancestors y_own y_many y_home y_name y_length y_op y_first y_second y_ruleKind y_ruleClasses y_ruleNames inl y_number y_newName y_family y_vMethod y_vLine y_vHeld y_put := fun o23 =>
      yi_1 T NF hC hM hm kl y o23 (fun v hv => ⟨fun ev => nx0 (by rw [← ev]; exact hv), fun _ => ih _ f _ (by omega) (by omega) ⟨fun m' k' hm' hk' hl => by
        rcases Nat.lt_or_ge (6 * m' + k') (6 * m + k) with v | v
        · rw [pk_un (by omega)]; exact z.1 m' k' hm' hk' v
        · have a1 : m' = m := by omega
          have a2 : k' = k := by omega
          subst a1 a2
          rw [pk_us]; exact hv, fun j h1 h2 => by rw [pk_un (by omega)]; exact z.2 j (by omega) h2⟩⟩)
    refine br_c (fun x => one (Or.inl x)) (fun x => ⟨vp_in_nI (by omega) (by decide), br_c (fun w => one (Or.inr w)) (fun w => nm_r (nI_1 _) (no (fun t ht => ?_)))⟩)
    rcases ht.2.2.2.2.2.2.2 with ⟨p, _⟩ | ⟨p, _⟩
    · exact w p
    · exact x p
end
