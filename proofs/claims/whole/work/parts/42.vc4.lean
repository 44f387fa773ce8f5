/-! ===== build, state, stays ===== -/
theorem i_vc_build {k : Nat} {u : SX} {v : SY} (I : i_Rel k u v) (hk : k + 5 ≤ 2560) : wpX_build (fun r u' => wpY_build (fun r' v' => r' = r ∧ i_Rel (k + 5) u' v') v) u := by
  obtain ⟨x_classCount, x_methodCount, x_ruleCount, x_isBuilt, x_faultPlace, x_namedClasses, x_madeClasses, x_namedMethods, x_liveMethods, x_depth, x_stepCount, x_outCount, x_traceCount, x_isInterfaceClass, x_chainOf, x_interfacesOf, x_ancestorsOf, x_homeOf, x_formOf, x_nameOf, x_lengthOf, x_opOf, x_classOf, x_numberOf, x_sourceMethod, x_sourceLine, x_callLine, x_ruleKind, x_ruleClasses, x_ruleNames, x_newNumber, x_familyOf, x_sightOf, x_frameRow, x_frameLine, x_frameHeld, x_outInts, x_traceMethod, x_traceLine⟩ := u; obtain ⟨y_classes, y_methods, y_rules, y_place, y_named, y_made, y_namedMethods, y_live, y_built, y_depth, y_steps, y_outs, y_ending, y_isInterface, y_isAbstract, y_parent, y_ancestors, y_own, y_many, y_home, y_name, y_length, y_op, y_first, y_second, y_ruleKind, y_ruleClasses, y_ruleNames, y_inlined, y_number, y_newName, y_family, y_vMethod, y_vLine, y_vHeld, y_put⟩ := v; have II := I; obtain ⟨C, M, R, t, o, rfl, rfl, rfl, rfl, rfl, rfl, rfl, rfl, rfl, rfl, rfl, rfl, rfl, rfl, rfl, rfl, rfl, rfl, rfl, rfl, rfl, ho, ht, hp, T, hb⟩ := (I : rl_p x_classCount x_methodCount x_ruleCount x_isBuilt x_faultPlace x_namedClasses x_madeClasses x_namedMethods x_liveMethods x_depth x_stepCount x_outCount x_traceCount x_isInterfaceClass x_chainOf x_interfacesOf x_ancestorsOf x_homeOf x_formOf x_nameOf x_lengthOf x_opOf x_classOf x_numberOf x_sourceMethod x_sourceLine x_callLine x_ruleKind x_ruleClasses x_ruleNames x_newNumber x_familyOf x_sightOf x_frameRow x_frameLine x_frameHeld x_outInts x_traceMethod x_traceLine y_classes y_methods y_rules y_place y_named y_made y_namedMethods y_live y_built y_depth y_steps y_outs y_ending y_isInterface y_isAbstract y_parent y_ancestors y_own y_many y_home y_name y_length y_op y_first y_second y_ruleKind y_ruleClasses y_ruleNames y_inlined y_number y_newName y_family y_vMethod y_vLine y_vHeld y_put)
  refine xB_v T rfl rfl rfl (fun q NF => ?_) (fun NF a1 b1 c1 d1 m1 m2 inl hI a b c d n1 n2 kept F nm L O P N S U A nu fa sg T' xb => ?_)
  · refine yB_v (a1 := 0) (b1 := 0) (c1 := 0) (d1 := 0) (a := 0) (b := 0) (c := 0) (d := 0) (inl := fun _ => 0) T rfl rfl rfl (fun q' NF' => ?_) (fun n => absurd (NF.symm.trans n) (by simp))
    have : q = q' := by simpa using NF.symm.trans NF'
    subst this
    exact ⟨rfl, rl_0 (k + 5) ho ht hp T⟩
  · refine yB_v (a1 := a1) (b1 := b1) (c1 := c1) (d1 := d1) (a := a) (b := b) (c := c) (d := d) (inl := inl) T rfl rfl rfl (fun q' NF' => absurd (NF.symm.trans NF') (by simp)) (fun _ => ⟨m1, m2, hI, n1, n2, fun inlY nu' fa' nn' kept' same k1 k2 k3 k4 => ⟨rfl, ?_⟩⟩)
    have lf : ∀ m, bt d m = true → y_isAbstract m = 0 := fun m z => n1.1 (fun q i => q = 3 → y_isAbstract i = 0) ⟨fun r hr h0 => ⟨fun c hc h z => absurd z (by decide), fun m hm h1 h2 => ⟨fun z => absurd z (by decide), fun h _ => h⟩⟩, fun m hm h z => absurd z (by decide), fun c hc h i hi z => absurd z (by decide),
      fun m hm h k hk => ⟨fun _ => ⟨fun z => absurd z (by decide), fun z => absurd z (by decide)⟩, fun _ z => absurd z (by decide), fun _ _ => ⟨fun z => absurd z (by decide), fun f ef => ⟨fun z => absurd z (by decide), fun h _ => h⟩⟩, fun _ => ⟨fun z => absurd z (by decide), fun _ => ⟨fun f ef z => absurd z (by decide), fun e he h1 h2 g eg => ⟨fun z => absurd z (by decide), fun h _ => h⟩⟩⟩⟩⟩ 3 m z rfl
    refine rl_i (x_isBuilt := 1) (k + 5) ho ht hp T' (fun _ => ⟨⟨rfl, rfl, rfl, rfl⟩, b1, d1, kept, inl, NF, hI, same, ⟨n1.2.1, n1.2.2.1, n1.2.2.2.1, n1.2.2.2.2.1, n1.2.2.2.2.2.1, n1.2.2.2.2.2.2, lf⟩, xb, fun j hj => ?_, k3, k4⟩)
    rw [k2 j hj, ke_u k1 xb.2.2.2.2.2]
theorem xc_n {post : Int32 → Prop} {s : Int32} (hp : post (nI (pc_n (bt s) 30))) : wpX_countBits post s := by
  have lo : ∀ q i f, i + q = 30 → q < f → wX_countBits_4 post s f (nI (pc_n (bt s) i)) (nI i) := by
    intro q
    induction q with
    | zero =>
      intro i f e hf
      obtain ⟨f, rfl⟩ : ∃ q, f = q + 1 := ⟨f - 1, by omega⟩
      have e : i = 30 := by omega
      subst e
      rw [wX_countBits_4]
      exact br_t (nI_le (a := 30) (Nat.le_refl _) (by decide)) hp
    | succ q ih =>
      intro i f e hf
      obtain ⟨f, rfl⟩ : ∃ q, f = q + 1 := ⟨f - 1, by omega⟩
      have nx := ih (i + 1) f (by omega) (by omega)
      rw [wX_countBits_4]
      refine br_f (nI_ge (b := 30) (by omega) (by decide)) (nm_r ?_ (nm_r (nI_1 i) nx))
      rw [bq_sh s (by omega)]
      have e1 : pc_n (bt s) (i + 1) = pc_n (bt s) i + (if bt s i = true then 1 else 0) := rfl
      rw [e1]
      by_cases b : bt s i = true
      · rw [if_pos b, if_pos b, nI_1]
      · rw [if_neg b, if_neg b, Int32.add_zero]; rfl
  unfold wpX_countBits
  exact ⟨31, lo 30 0 31 (by omega) (by omega)⟩
section
variable {y_classes y_methods y_rules y_place y_named y_made y_namedMethods y_live y_built y_depth y_steps y_outs y_ending : Int32} {y_isInterface y_isAbstract y_parent y_ancestors y_own y_many y_home y_name y_length y_op y_first y_second y_ruleKind y_ruleClasses y_ruleNames y_inlined y_number y_newName y_family y_vMethod y_vLine y_vHeld y_put : Nat → Int32}
theorem yc_n {post : Int32 → Prop} {s : Int32} (hp : post (nI (pc_n (bt s) 30))) : ∃ n, wY_state_87 post s y_classes y_methods y_rules y_place y_named y_made y_namedMethods y_live y_built y_depth y_steps y_outs y_ending y_isInterface y_isAbstract y_parent y_ancestors y_own y_many y_home y_name y_length y_op y_first y_second y_ruleKind y_ruleClasses y_ruleNames y_inlined y_number y_newName y_family y_vMethod y_vLine y_vHeld y_put n 0 0 := by
  have lo : ∀ q i f, i + q = 30 → q < f → wY_state_87 post s y_classes y_methods y_rules y_place y_named y_made y_namedMethods y_live y_built y_depth y_steps y_outs y_ending y_isInterface y_isAbstract y_parent y_ancestors y_own y_many y_home y_name y_length y_op y_first y_second y_ruleKind y_ruleClasses y_ruleNames y_inlined y_number y_newName y_family y_vMethod y_vLine y_vHeld y_put f (nI (pc_n (bt s) i)) (nI i) := by
    intro q
    induction q with
    | zero =>
      intro i f e hf
      obtain ⟨f, rfl⟩ : ∃ q, f = q + 1 := ⟨f - 1, by omega⟩
      have e : i = 30 := by omega
      subst e
      rw [wY_state_87]
      exact br_t (nI_le (a := 30) (Nat.le_refl _) (by decide)) hp
    | succ q ih =>
      intro i f e hf
      obtain ⟨f, rfl⟩ : ∃ q, f = q + 1 := ⟨f - 1, by omega⟩
      have nx := ih (i + 1) f (by omega) (by omega)
      have e1 : pc_n (bt s) (i + 1) = pc_n (bt s) i + (if bt s i = true then 1 else 0) := rfl
      rw [e1] at nx
      rw [wY_state_87]
      refine br_f (nI_ge (b := 30) (by omega) (by decide)) (yb_b (by omega) (fun b => ?_) (fun b => ?_))
      · rw [if_pos b] at nx
        exact nm_r (nI_1 _) (nm_r (nI_1 i) nx)
      · rw [if_neg b] at nx
        exact nm_r (nI_1 i) nx
  exact ⟨31, lo 30 0 31 (by omega) (by omega)⟩
end
theorem or_le {a b : Int32} (h : ss_le b a) : a ||| b = a := ss_as (ss_ou (ss_rf a) h) (ss_ol a b)
theorem i_vc_state {k : Nat} {u : SX} {v : SY} (I : i_Rel k u v) (hk : k + 5 ≤ 2560) (v1 : Int32) : wpX_state (fun r => wpY_state (fun r' => r' = r ∧ i_Rel (k + 5) u v) v v1) u v1 := by
  obtain ⟨x_classCount, x_methodCount, x_ruleCount, x_isBuilt, x_faultPlace, x_namedClasses, x_madeClasses, x_namedMethods, x_liveMethods, x_depth, x_stepCount, x_outCount, x_traceCount, x_isInterfaceClass, x_chainOf, x_interfacesOf, x_ancestorsOf, x_homeOf, x_formOf, x_nameOf, x_lengthOf, x_opOf, x_classOf, x_numberOf, x_sourceMethod, x_sourceLine, x_callLine, x_ruleKind, x_ruleClasses, x_ruleNames, x_newNumber, x_familyOf, x_sightOf, x_frameRow, x_frameLine, x_frameHeld, x_outInts, x_traceMethod, x_traceLine⟩ := u; obtain ⟨y_classes, y_methods, y_rules, y_place, y_named, y_made, y_namedMethods, y_live, y_built, y_depth, y_steps, y_outs, y_ending, y_isInterface, y_isAbstract, y_parent, y_ancestors, y_own, y_many, y_home, y_name, y_length, y_op, y_first, y_second, y_ruleKind, y_ruleClasses, y_ruleNames, y_inlined, y_number, y_newName, y_family, y_vMethod, y_vLine, y_vHeld, y_put⟩ := v; have II := I; obtain ⟨C, M, R, t, o, rfl, rfl, rfl, rfl, rfl, rfl, rfl, rfl, rfl, rfl, rfl, rfl, rfl, rfl, rfl, rfl, rfl, rfl, rfl, rfl, rfl, ho, ht, hp, T, hb⟩ := (I : rl_p x_classCount x_methodCount x_ruleCount x_isBuilt x_faultPlace x_namedClasses x_madeClasses x_namedMethods x_liveMethods x_depth x_stepCount x_outCount x_traceCount x_isInterfaceClass x_chainOf x_interfacesOf x_ancestorsOf x_homeOf x_formOf x_nameOf x_lengthOf x_opOf x_classOf x_numberOf x_sourceMethod x_sourceLine x_callLine x_ruleKind x_ruleClasses x_ruleNames x_newNumber x_familyOf x_sightOf x_frameRow x_frameLine x_frameHeld x_outInts x_traceMethod x_traceLine y_classes y_methods y_rules y_place y_named y_made y_namedMethods y_live y_built y_depth y_steps y_outs y_ending y_isInterface y_isAbstract y_parent y_ancestors y_own y_many y_home y_name y_length y_op y_first y_second y_ruleKind y_ruleClasses y_ruleNames y_inlined y_number y_newName y_family y_vMethod y_vLine y_vHeld y_put)
  unfold wpX_state wpY_state
  dsimp only
  rcases pk_ix v1 (n := 5) (by decide) with z | z | ⟨j, hj, rfl⟩
  · exact br_t z (br_t z ⟨rfl, II⟩)
  · have z4 : 4 < v1 := by
      rw [Int32.le_iff_toInt_le] at z
      rw [Int32.lt_iff_toInt_lt]
      have e1 : (4 : Int32).toInt = 4 := by decide
      have e2 : (nI 5).toInt = 5 := by decide
      omega
    exact br_f (ix_0 (by decide) z) (br_t z4 (br_f (ix_0 (by decide) z) (br_t z4 ⟨rfl, II⟩)))
  · rcases (by omega : j = 0 ∨ j = 1 ∨ j = 2 ∨ j = 3 ∨ j = 4) with w | w | w | w | w
    · subst w
      exact br_f (by decide) (br_f (by decide) (br_t rfl (br_f (by decide) (br_f (by decide) (br_t rfl ⟨rfl, II⟩)))))
    · subst w
      exact br_f (by decide) (br_f (by decide) (br_f (by decide) (br_t rfl (br_f (by decide) (br_f (by decide) (br_f (by decide) (br_t rfl ⟨rfl, II⟩)))))))
    · subst w
      exact br_f (by decide) (br_f (by decide) (br_f (by decide) (br_f (by decide) (br_t rfl (br_f (by decide) (br_f (by decide) (br_f (by decide) (br_f (by decide) (br_t rfl ⟨rfl, II⟩)))))))))
    · subst w
      refine br_f (by decide) (br_f (by decide) (br_f (by decide) (br_f (by decide) (br_f (by decide) (br_t rfl ?_)))))
      refine br_c (fun b => br_f (by decide) (br_f (by decide) (br_f (by decide) (br_f (by decide) (br_f (by decide) (br_t rfl ?_)))))) (fun b => ?_)
      · unfold wY_state_51
        exact br_t b ⟨rfl, II⟩
      · obtain ⟨⟨e1, _⟩, _⟩ := hb b
        refine xc_n (br_f (by decide) (br_f (by decide) (br_f (by decide) (br_f (by decide) (br_f (by decide) (br_t rfl ?_))))))
        unfold wY_state_51
        refine br_f b (br_t rfl (yc_n ⟨?_, II⟩))
        rw [e1]
    · subst w
      refine br_f (by decide) (br_f (by decide) (br_f (by decide) (br_f (by decide) (br_f (by decide) (br_f (by decide) (br_t rfl ?_))))))
      refine br_c (fun b => br_f (by decide) (br_f (by decide) (br_f (by decide) (br_f (by decide) (br_f (by decide) (br_f (by decide) (br_t rfl ?_))))))) (fun b => ?_)
      · unfold wY_state_51
        exact br_t b ⟨rfl, II⟩
      · obtain ⟨⟨_, _, e1, e2⟩, b1, d1, kept, inl, _, _, _, ml, _⟩ := hb b
        refine xc_n (br_f (by decide) (br_f (by decide) (br_f (by decide) (br_f (by decide) (br_f (by decide) (br_f (by decide) (br_t rfl ?_)))))))
        unfold wY_state_51
        refine br_f b (br_f (by decide) (nm_e (yc_n ⟨?_, II⟩)))
        rw [← e1, ← e2, or_le ml.1]
