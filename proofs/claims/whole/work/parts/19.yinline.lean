/-! ===== Y's inlining ===== -/
section
variable {y_classes y_methods y_rules y_place y_named y_made y_namedMethods y_live y_built y_depth y_steps y_outs y_ending : Int32} {y_isInterface y_isAbstract y_parent y_ancestors y_own y_many y_home y_name y_length y_op y_first y_second y_ruleKind y_ruleClasses y_ruleNames y_inlined y_number y_newName y_family y_vMethod y_vLine y_vHeld y_put : Nat → Int32} {chn xform xname xlen xop xcl xnu xsm xsl xca : Nat → Int32} {C M R : Nat}
theorem yt_v (T : tp_p C M R y_isInterface y_ancestors y_own chn y_parent y_many y_home y_ruleKind y_ruleClasses y_ruleNames xform xname xlen y_isAbstract y_name y_length xop xcl xnu xsm xsl xca y_op y_first y_second) (hC : y_classes = nI C) (hM : y_methods = nI M) {post : Int32 → Prop} {j k : Nat} (hj : j < 180) (o23 : y_op j = 2 ∨ y_op j = 3) (hk : k < C) (ek : y_first j = nI k)
    (hf : ∃ g, fo_v M y_ancestors chn y_home y_name k (y_second j) = some g) (ha : ∀ g, y_op j = 3 → fo_v M y_ancestors chn y_home y_name k (y_second j) = some g → y_isAbstract g = 0)
    (K1 : ∀ t, t < M → tg_p C y_ancestors y_made (fo_v M y_ancestors chn y_home y_name) (y_op j) (y_first j) (y_second j) t → y_isAbstract t = 0 → post (nI t)) (K0 : (∀ t, tg_p C y_ancestors y_made (fo_v M y_ancestors chn y_home y_name) (y_op j) (y_first j) (y_second j) t → ¬ y_isAbstract t = 0) → post (-1)) : wpY_target post (y_classes, y_methods, y_rules, y_place, y_named, y_made, y_namedMethods, y_live, y_built, y_depth, y_steps, y_outs, y_ending, y_isInterface, y_isAbstract, y_parent, y_ancestors, y_own, y_many, y_home, y_name, y_length, y_op, y_first, y_second, y_ruleKind, y_ruleClasses, y_ruleNames, y_inlined, y_number, y_newName, y_family, y_vMethod, y_vLine, y_vHeld, y_put) (nI j) := by
  have h10 := T.1.1
  have h30 := T.2.2.1.1
  obtain ⟨g, eg⟩ := hf
  have hke : hq_t (nI k) = k := hq_e (by omega)
  unfold wpY_target
  dsimp only
  rw [nI_c (by omega)]
  refine ⟨vp_in_nI hj (by decide), nm_r ek ⟨vp_in_nI hj (by decide), br_c (fun o3 => ⟨vp_in_nI hj (by decide), ?_⟩) (fun o3 => ?_)⟩⟩
  · refine yo_v T hC hM hk ?_
    rw [eg]
    refine ⟨1, ?_⟩
    have fin : post (nI g) := K1 g (fd_s T.1 hk eg).1 (Or.inl ⟨o3, by rw [ek, hke]; exact eg⟩) (ha g o3 eg)
    rw [wY_target_36]
    refine br_c (fun _ => fin) (fun _ => ⟨vp_in_nI hj (by decide), ?_⟩)
    rw [nI_c (by omega)]
    exact br_f (by rw [o3]; decide) fin
  · have o2 : y_op j = 2 := by
      rcases o23 with z | z
      · exact z
      · exact absurd z o3
    have no3 : ∀ s, tg_p C y_ancestors y_made (fo_v M y_ancestors chn y_home y_name) (y_op j) (y_first j) (y_second j) s → ∀ d, d < C → bt y_made d = true → bt (y_ancestors d) k = true → fo_v M y_ancestors chn y_home y_name d (y_second j) = some s := fun s hs => by
      rcases hs with ⟨z, _⟩ | ⟨_, _, z⟩
      · exact absurd z o3
      · rw [ek, hke] at z; exact z
    have lo : ∀ q i f (s : Option Nat), i + q = C → q < f →
        ((s = none ∧ ∀ d, d < i → bt y_made d = true → ¬ bt (y_ancestors d) k = true) ∨
          ∃ t, s = some t ∧ t < M ∧ y_isAbstract t = 0 ∧ (∃ d, d < i ∧ bt y_made d = true ∧ bt (y_ancestors d) k = true) ∧ ∀ d, d < i → bt y_made d = true → bt (y_ancestors d) k = true → fo_v M y_ancestors chn y_home y_name d (y_second j) = some t) →
        wY_target_36 post (nI j) (nI k) y_classes y_methods y_rules y_place y_named y_made y_namedMethods y_live y_built y_depth y_steps y_outs y_ending y_isInterface y_isAbstract y_parent y_ancestors y_own y_many y_home y_name y_length y_op y_first y_second y_ruleKind y_ruleClasses y_ruleNames y_inlined y_number y_newName y_family y_vMethod y_vLine y_vHeld y_put f (oI s) (nI i) := by
      intro q
      induction q with
      | zero =>
        intro i f s e hf z
        obtain ⟨f, rfl⟩ : ∃ q, f = q + 1 := ⟨f - 1, by omega⟩
        have e : i = C := by omega
        subst e
        rw [wY_target_36]
        refine br_t (by rw [hC]; exact nI_le (by omega) (by omega)) ?_
        rcases z with ⟨rfl, z⟩ | ⟨t, rfl, tM, ta, ⟨d, d1, d2, d3⟩, z⟩
        · refine K0 (fun t ht => ?_)
          rcases ht with ⟨y, _⟩ | ⟨_, ⟨d, d1, d2, d3⟩, _⟩
          · exact absurd y o3
          · rw [ek, hke] at d3; exact absurd d3 (z d d1 d2)
        · exact K1 t tM (Or.inr ⟨o2, ⟨d, d1, d2, by rw [ek, hke]; exact d3⟩, by rw [ek, hke]; exact z⟩) ta
      | succ q ih =>
        intro i f s e hf z
        obtain ⟨f, rfl⟩ : ∃ q, f = q + 1 := ⟨f - 1, by omega⟩
        have nx : ¬ (bt y_made i = true ∧ bt (y_ancestors i) k = true) → wY_target_36 post (nI j) (nI k) y_classes y_methods y_rules y_place y_named y_made y_namedMethods y_live y_built y_depth y_steps y_outs y_ending y_isInterface y_isAbstract y_parent y_ancestors y_own y_many y_home y_name y_length y_op y_first y_second y_ruleKind y_ruleClasses y_ruleNames y_inlined y_number y_newName y_family y_vMethod y_vLine y_vHeld y_put f (oI s) (nI (i + 1)) := fun y =>
          ih (i + 1) f s (by omega) (by omega) (by
            rcases z with ⟨z1, z2⟩ | ⟨t, z1, z2, z3, ⟨d, d1, d2⟩, z4⟩
            · refine Or.inl ⟨z1, fun d hd x w => ?_⟩
              rcases Nat.lt_or_ge d i with v | v
              · exact z2 d v x w
              · have : d = i := by omega
                subst this; exact y ⟨x, w⟩
            · refine Or.inr ⟨t, z1, z2, z3, ⟨d, by omega, d2⟩, fun d hd x w => ?_⟩
              rcases Nat.lt_or_ge d i with v | v
              · exact z4 d v x w
              · have : d = i := by omega
                subst this; exact absurd ⟨x, w⟩ y)
        rw [wY_target_36]
        refine br_f (by rw [hC]; exact nI_ge (by omega) (by omega)) ⟨vp_in_nI hj (by decide), ?_⟩
        rw [nI_c (show j < 10000 by omega), nI_c (show i < 10000 by omega)]
        refine br_t o2 (yb_b (by omega) (fun y => ⟨vp_in_nI (by omega) (by decide), yb_b (by omega) (fun x => ⟨vp_in_nI hj (by decide), ?_⟩) (fun x => nm_r (nI_1 i) (nx (fun q => x q.2)))⟩) (fun y => nm_r (nI_1 i) (nx (fun q => y q.1))))
        obtain ⟨m, em⟩ := fd_up T.1 hk (d := i) (by omega) eg x
        have hm := (fd_s T.1 (by omega) em).1
        refine yo_v T hC hM (by omega) ?_
        have em' : fo_v M y_ancestors chn y_home y_name i (y_second j) = some m := em
        rw [em']
        have nxt : (s = none ∨ s = some m) → wY_target_108 post (wY_target_36 post (nI j) (nI k) y_classes y_methods y_rules y_place y_named y_made y_namedMethods y_live y_built y_depth y_steps y_outs y_ending y_isInterface y_isAbstract y_parent y_ancestors y_own y_many y_home y_name y_length y_op y_first y_second y_ruleKind y_ruleClasses y_ruleNames y_inlined y_number y_newName y_family y_vMethod y_vLine y_vHeld y_put f) (nI j) (nI k) (nI i) (oI (some m)) y_classes y_methods y_rules y_place y_named y_made y_namedMethods y_live y_built y_depth y_steps y_outs y_ending y_isInterface y_isAbstract y_parent y_ancestors y_own y_many y_home y_name y_length y_op y_first y_second y_ruleKind y_ruleClasses y_ruleNames y_inlined y_number y_newName y_family y_vMethod y_vLine y_vHeld y_put := by
          intro sm
          unfold wY_target_108
          rw [oI_s, nI_c (show m < 10000 by omega)]
          refine ⟨vp_in_nI (by omega) (by decide), br_c (fun a => nm_r (nI_1 i) (ih (i + 1) f (some m) (by omega) (by omega) (Or.inr ⟨m, rfl, hm, a, ⟨i, by omega, y, x⟩, fun d hd w v => ?_⟩))) (fun a => K0 (fun t ht => ?_))⟩
          · rcases Nat.lt_or_ge d i with u | u
            · rcases z with ⟨z1, z2⟩ | ⟨t, z1, z2, z3, _, z4⟩
              · exact absurd v (z2 d u w)
              · rcases sm with q | q
                · rw [z1] at q; exact absurd q (by simp)
                · rw [z1] at q
                  have : t = m := by simpa using q
                  subst this; exact z4 d u w v
            · have : d = i := by omega
              subst this; exact em'
          · have := no3 t ht i (by omega) y x
            rw [em'] at this
            have : m = t := by simpa using this
            subst this; exact a
        have sM : ∀ t, s = some t → t < M := fun t et => by
          rcases z with ⟨z1, _⟩ | ⟨t', z1, z2, _⟩
          · rw [z1] at et; exact absurd et (by simp)
          · rw [z1] at et
            have : t' = t := by simpa using et
            omega
        refine oI_lt (fun t et => by have := sM t et; omega) (fun sn => nxt (Or.inl sn)) (fun t st => ?_)
        have tM := sM t st
        rw [st, oI_s, oI_s]
        refine pk_eq m t (fun w => ?_) (fun w => K0 (fun t' ht => ?_))
        · subst w; exact nxt (Or.inr st)
        · have a1 := no3 t' ht i (by omega) y x
          rw [em'] at a1
          have a1 : m = t' := by simpa using a1
          rcases z with ⟨z1, _⟩ | ⟨t2, z1, _, _, ⟨d, d1, d2, d3⟩, z4⟩
          · rw [z1] at st; exact absurd st (by simp)
          · rw [z1] at st
            have st : t2 = t := by simpa using st
            have a2 := no3 t' ht d (by omega) d2 d3
            rw [z4 d d1 d2 d3] at a2
            have a2 : t2 = t' := by simpa using a2
            omega
    exact ⟨C + 1, lo C 0 (C + 1) none (by omega) (by omega) (Or.inl ⟨rfl, fun d hd => by omega⟩)⟩
end
