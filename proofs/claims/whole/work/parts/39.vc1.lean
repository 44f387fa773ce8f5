/-! ===== keep, type, also ===== -/
section
variable {x_classCount x_methodCount x_ruleCount x_isBuilt x_faultPlace x_namedClasses x_madeClasses x_namedMethods x_liveMethods x_depth x_stepCount x_outCount x_traceCount : Int32} {x_isInterfaceClass x_chainOf x_interfacesOf x_ancestorsOf x_homeOf x_formOf x_nameOf x_lengthOf x_opOf x_classOf x_numberOf x_sourceMethod x_sourceLine x_callLine x_ruleKind x_ruleClasses x_ruleNames x_newNumber x_familyOf x_sightOf x_frameRow x_frameLine x_frameHeld x_outInts x_traceMethod x_traceLine : Nat → Int32} {y_classes y_methods y_rules y_place y_named y_made y_namedMethods y_live y_built y_depth y_steps y_outs y_ending : Int32} {y_isInterface y_isAbstract y_parent y_ancestors y_own y_many y_home y_name y_length y_op y_first y_second y_ruleKind y_ruleClasses y_ruleNames y_inlined y_number y_newName y_family y_vMethod y_vLine y_vHeld y_put : Nat → Int32} {C M R : Nat}
theorem tp_keep (T : tp_p C M R x_isInterfaceClass x_ancestorsOf x_interfacesOf x_chainOf y_parent y_many x_homeOf x_ruleKind x_ruleClasses x_ruleNames x_formOf x_nameOf x_lengthOf y_isAbstract y_name y_length x_opOf x_classOf x_numberOf x_sourceMethod x_sourceLine x_callLine y_op y_first y_second) (hR : R < 4) {j : Nat} (hj : j < 2) (a b : Int32) : tp_p C M (R + 1) x_isInterfaceClass x_ancestorsOf x_interfacesOf x_chainOf y_parent y_many x_homeOf (upd x_ruleKind R (nI j)) (upd x_ruleClasses R a) (upd x_ruleNames R b) x_formOf x_nameOf x_lengthOf y_isAbstract y_name y_length x_opOf x_classOf x_numberOf x_sourceMethod x_sourceLine x_callLine y_op y_first y_second := by
  obtain ⟨h1, h2, h3, h4, h5, h6, h7, h8⟩ := T
  refine ⟨h1, h2, h3, h4, h5, h6, by omega, fun r hr => ?_⟩
  by_cases c : r = R
  · subst c
    rw [pk_us]
    rcases (by omega : j = 0 ∨ j = 1) with z | z
    · subst z; exact Or.inl rfl
    · subst z; exact Or.inr rfl
  · rw [pk_un c]; exact h8 r (by omega)
theorem tp_hi (T : tp_p C M R x_isInterfaceClass x_ancestorsOf x_interfacesOf x_chainOf y_parent y_many x_homeOf x_ruleKind x_ruleClasses x_ruleNames x_formOf x_nameOf x_lengthOf y_isAbstract y_name y_length x_opOf x_classOf x_numberOf x_sourceMethod x_sourceLine x_callLine y_op y_first y_second) {C' : Nat} {ifc' anc' own' chn' par' many' : Nat → Int32} (hC : C ≤ C') (h : hi_ok C' ifc' anc' chn' par') (ho : ∀ c, c < C' → ow_p (own' c) (many' c)) (hi : ∀ c, c < C → ifc' c = x_isInterfaceClass c) :
    tp_p C' M R ifc' anc' own' chn' par' many' x_homeOf x_ruleKind x_ruleClasses x_ruleNames x_formOf x_nameOf x_lengthOf y_isAbstract y_name y_length x_opOf x_classOf x_numberOf x_sourceMethod x_sourceLine x_callLine y_op y_first y_second := by
  obtain ⟨h1, h2, h3, h4, h5, h6, h7, h8⟩ := T
  refine ⟨h, ho, ⟨h3.1, fun m hm => ?_, h3.2.2⟩, fun m hm => ?_, h5, h6, h7, h8⟩
  · obtain ⟨c, hc, e⟩ := h3.2.1 m hm
    exact ⟨c, by omega, e⟩
  · obtain ⟨p1, p2, p3, p4⟩ := h4 m hm
    refine ⟨p1, p2, p3, fun z => p4 ?_⟩
    rw [hi _ (mh_h h3 h1.1 hm).2] at z
    exact z
end
theorem i_vc_keep {k : Nat} {u : SX} {v : SY} (I : i_Rel k u v) (hk : k + 5 ≤ 2560) (v1 : Int32) (v2 : Int32) (v3 : Int32) : wpX_keep (fun r u' => wpY_keep (fun r' v' => r' = r ∧ i_Rel (k + 5) u' v') v v1 v2 v3) u v1 v2 v3 := by
  obtain ⟨x_classCount, x_methodCount, x_ruleCount, x_isBuilt, x_faultPlace, x_namedClasses, x_madeClasses, x_namedMethods, x_liveMethods, x_depth, x_stepCount, x_outCount, x_traceCount, x_isInterfaceClass, x_chainOf, x_interfacesOf, x_ancestorsOf, x_homeOf, x_formOf, x_nameOf, x_lengthOf, x_opOf, x_classOf, x_numberOf, x_sourceMethod, x_sourceLine, x_callLine, x_ruleKind, x_ruleClasses, x_ruleNames, x_newNumber, x_familyOf, x_sightOf, x_frameRow, x_frameLine, x_frameHeld, x_outInts, x_traceMethod, x_traceLine⟩ := u; obtain ⟨y_classes, y_methods, y_rules, y_place, y_named, y_made, y_namedMethods, y_live, y_built, y_depth, y_steps, y_outs, y_ending, y_isInterface, y_isAbstract, y_parent, y_ancestors, y_own, y_many, y_home, y_name, y_length, y_op, y_first, y_second, y_ruleKind, y_ruleClasses, y_ruleNames, y_inlined, y_number, y_newName, y_family, y_vMethod, y_vLine, y_vHeld, y_put⟩ := v; have II := I; obtain ⟨C, M, R, t, o, rfl, rfl, rfl, rfl, rfl, rfl, rfl, rfl, rfl, rfl, rfl, rfl, rfl, rfl, rfl, rfl, rfl, rfl, rfl, rfl, rfl, ho, ht, hp, T, hb⟩ := (I : rl_p x_classCount x_methodCount x_ruleCount x_isBuilt x_faultPlace x_namedClasses x_madeClasses x_namedMethods x_liveMethods x_depth x_stepCount x_outCount x_traceCount x_isInterfaceClass x_chainOf x_interfacesOf x_ancestorsOf x_homeOf x_formOf x_nameOf x_lengthOf x_opOf x_classOf x_numberOf x_sourceMethod x_sourceLine x_callLine x_ruleKind x_ruleClasses x_ruleNames x_newNumber x_familyOf x_sightOf x_frameRow x_frameLine x_frameHeld x_outInts x_traceMethod x_traceLine y_classes y_methods y_rules y_place y_named y_made y_namedMethods y_live y_built y_depth y_steps y_outs y_ending y_isInterface y_isAbstract y_parent y_ancestors y_own y_many y_home y_name y_length y_op y_first y_second y_ruleKind y_ruleClasses y_ruleNames y_inlined y_number y_newName y_family y_vMethod y_vLine y_vHeld y_put)
  have h4 := T.2.2.2.2.2.2.1
  unfold wpX_keep wpY_keep
  dsimp only
  refine pk_eq R 4 (fun e => br_t (by rw [e]; rfl) ⟨rfl, II⟩) (fun e => ?_)
  have ne : ¬ nI R = 4 := fun z => e ((nI_eq (a := R) (b := 4) (by omega) (by omega)).mp z)
  rcases pk_ix v1 (n := 2) (by decide) with z | z | ⟨j, hj, rfl⟩
  · exact br_t z (br_f ne (yn_b (n := 2) (by decide) (fun j hj e => absurd z (by rw [e]; exact nI_pos (by omega))) (fun _ => ⟨rfl, II⟩)))
  · have z1 : ¬ v1 ≤ 1 := fun q => by
      rw [Int32.le_iff_toInt_le] at q z
      have e1 : (1 : Int32).toInt = 1 := by decide
      have e2 : (nI 2).toInt = 2 := by decide
      omega
    exact br_f (ix_0 (by decide) z) (br_f z1 (br_f ne (yn_b (n := 2) (by decide) (fun j hj e => absurd z (by rw [e]; exact nI_ge hj (by decide))) (fun _ => ⟨rfl, II⟩))))
  · have i4 : vp_in (nI R) 4 := vp_in_nI (by omega) (by decide)
    rw [nI_c (by omega)]
    refine br_f (nI_pos (by omega)) (br_t (nI_le (b := 1) (by omega) (by decide)) ⟨i4, nm_e ⟨i4, nm_e ⟨i4, nm_e (nm_r (nI_1 R) (br_f ne ?_))⟩⟩⟩)
    refine yn_b (n := 2) (by decide) (fun _ _ _ => ⟨i4, nm_e ⟨i4, nm_e ⟨i4, nm_e (nm_r (nI_1 R) ⟨rfl, ?_⟩)⟩⟩⟩) (fun z => absurd z (fun y => y.elim (nI_pos (by omega)) (nI_ge hj (by decide))))
    exact rl_0 (k + 5) ho ht hp (tp_keep T (by omega) hj _ _)
theorem i_vc_type {k : Nat} {u : SX} {v : SY} (I : i_Rel k u v) (hk : k + 5 ≤ 2560) (v1 : Int32) (v2 : Int32) : wpX_type (fun r u' => wpY_type (fun r' v' => r' = r ∧ i_Rel (k + 5) u' v') v (lw_bz v1) v2) u (lw_bz v1) v2 := by
  obtain ⟨x_classCount, x_methodCount, x_ruleCount, x_isBuilt, x_faultPlace, x_namedClasses, x_madeClasses, x_namedMethods, x_liveMethods, x_depth, x_stepCount, x_outCount, x_traceCount, x_isInterfaceClass, x_chainOf, x_interfacesOf, x_ancestorsOf, x_homeOf, x_formOf, x_nameOf, x_lengthOf, x_opOf, x_classOf, x_numberOf, x_sourceMethod, x_sourceLine, x_callLine, x_ruleKind, x_ruleClasses, x_ruleNames, x_newNumber, x_familyOf, x_sightOf, x_frameRow, x_frameLine, x_frameHeld, x_outInts, x_traceMethod, x_traceLine⟩ := u; obtain ⟨y_classes, y_methods, y_rules, y_place, y_named, y_made, y_namedMethods, y_live, y_built, y_depth, y_steps, y_outs, y_ending, y_isInterface, y_isAbstract, y_parent, y_ancestors, y_own, y_many, y_home, y_name, y_length, y_op, y_first, y_second, y_ruleKind, y_ruleClasses, y_ruleNames, y_inlined, y_number, y_newName, y_family, y_vMethod, y_vLine, y_vHeld, y_put⟩ := v; have II := I; obtain ⟨C, M, R, t, o, rfl, rfl, rfl, rfl, rfl, rfl, rfl, rfl, rfl, rfl, rfl, rfl, rfl, rfl, rfl, rfl, rfl, rfl, rfl, rfl, rfl, ho, ht, hp, T, hb⟩ := (I : rl_p x_classCount x_methodCount x_ruleCount x_isBuilt x_faultPlace x_namedClasses x_madeClasses x_namedMethods x_liveMethods x_depth x_stepCount x_outCount x_traceCount x_isInterfaceClass x_chainOf x_interfacesOf x_ancestorsOf x_homeOf x_formOf x_nameOf x_lengthOf x_opOf x_classOf x_numberOf x_sourceMethod x_sourceLine x_callLine x_ruleKind x_ruleClasses x_ruleNames x_newNumber x_familyOf x_sightOf x_frameRow x_frameLine x_frameHeld x_outInts x_traceMethod x_traceLine y_classes y_methods y_rules y_place y_named y_made y_namedMethods y_live y_built y_depth y_steps y_outs y_ending y_isInterface y_isAbstract y_parent y_ancestors y_own y_many y_home y_name y_length y_op y_first y_second y_ruleKind y_ruleClasses y_ruleNames y_inlined y_number y_newName y_family y_vMethod y_vLine y_vHeld y_put)
  have h10 := T.1.1
  generalize lw_bz v1 = p0
  unfold wpX_type wpY_type
  dsimp only
  have c10 : ∀ {C : Nat}, C ≤ 10 → ¬ C = 10 → ¬ nI C = 10 := fun h e z => e ((nI_eq (b := 10) (by omega) (by omega)).mp z)
  refine br_c (fun e => ?_) (fun e => ?_)
  · subst e
    unfold wX_type_28
    refine pk_eq C 10 (fun e => br_t rfl ?_) (fun e => ?_)
    · unfold wY_type_31
      exact br_t (by rw [e]; rfl) ⟨rfl, II⟩
    · have i10 : vp_in (nI C) 10 := vp_in_nI (by omega) (by decide)
      rw [nI_c (show C < 10000 by omega)]
      refine nm_r (nI_1 C) ⟨i10, nm_e ⟨i10, nm_e ⟨i10, nm_e ⟨i10, nm_e (br_t rfl (br_t rfl ?_))⟩⟩⟩⟩
      unfold wY_type_31
      rw [nI_c (show C < 10000 by omega)]
      refine br_f (c10 h10 e) (nm_r (nI_1 C) ⟨i10, nm_e ⟨i10, nm_e (br_f (by decide) ?_)⟩⟩)
      unfold wY_type_91
      rw [nI_c (show C < 10000 by omega)]
      have or0 : ((1 : Int32) <<< (nI C &&& 31)) ||| 0 = (1 : Int32) <<< (nI C &&& 31) := by
        apply b_ext; intro i _; rw [b_or, b_0, Bool.or_false]
      rw [or0]
      refine ⟨i10, nm_e ⟨i10, nm_e ⟨i10, nm_e ⟨rfl, ?_⟩⟩⟩⟩
      refine rl_0 (C := C + 1) (k + 5) ho ht (fun c hc z => ?_) (tp_hi T (by omega) (hi_1 T.1 (by omega) _) (fun c hc => ?_) (fun c hc => pk_un (by omega)))
      · by_cases w : c = C
        · subst w; exact pk_us
        · rw [pk_un w] at z ⊢; exact hp c (by omega) z
      · by_cases w : c = C
        · subst w; rw [pk_us, pk_us]; exact Or.inl ⟨rfl, rfl⟩
        · rw [pk_un w, pk_un w]; exact T.2.1 c (by omega)
  · have bad : (v2 < 0 ∨ nI C ≤ v2) → wpY_type (fun r' v' => r' = (-1) ∧ i_Rel (k + 5) (nI C, nI M, nI R, x_isBuilt, x_faultPlace, x_namedClasses, x_madeClasses, x_namedMethods, x_liveMethods, x_depth, x_stepCount, nI o, nI t, x_isInterfaceClass, x_chainOf, x_interfacesOf, x_ancestorsOf, x_homeOf, x_formOf, x_nameOf, x_lengthOf, x_opOf, x_classOf, x_numberOf, x_sourceMethod, x_sourceLine, x_callLine, x_ruleKind, x_ruleClasses, x_ruleNames, x_newNumber, x_familyOf, x_sightOf, x_frameRow, x_frameLine, x_frameHeld, x_outInts, x_traceMethod, x_traceLine) v') (nI C, nI M, nI R, x_faultPlace, y_named, y_made, y_namedMethods, y_live, x_isBuilt, nI t, x_stepCount, nI o, y_ending, x_isInterfaceClass, y_isAbstract, y_parent, x_ancestorsOf, x_interfacesOf, y_many, x_homeOf, y_name, y_length, y_op, y_first, y_second, x_ruleKind, x_ruleClasses, x_ruleNames, y_inlined, y_number, y_newName, y_family, y_vMethod, y_vLine, y_vHeld, x_outInts) p0 v2 := fun z => by
      unfold wpY_type
      dsimp only
      refine br_f e (yn_b (by omega) (fun j hj ej => ?_) (fun _ => ⟨rfl, II⟩))
      rw [ej] at z
      exact absurd z (fun y => y.elim (nI_pos (by omega)) (nI_ge hj (by omega)))
    rcases pk_ix v2 (n := C) (by omega) with z | z | ⟨p, hpC, rfl⟩
    · refine br_c (fun p0z => ?_) (fun p0z => bad (Or.inl z))
      unfold wpX_isClass
      exact br_t z (br_0 (bad (Or.inl z)))
    · refine br_c (fun p0z => ?_) (fun p0z => bad (Or.inr z))
      unfold wpX_isClass
      exact br_f (ix_0 (by omega) z) (br_t z (br_0 (bad (Or.inr z))))
    · have ip10 : vp_in (nI p) 10 := vp_in_nI (by omega) (by decide)
      have yin : ∀ {A B : Prop}, B → wpY_in (fun r => (r = 0 → A) ∧ (¬ r = 0 → B)) (nI p) (nI C) := fun b => yn_b (by omega) (fun _ _ _ => b) (fun z => absurd z (fun y => y.elim (nI_pos (by omega)) (nI_ge hpC (by omega))))
      rw [nI_c (show p < 10000 by omega)]
      refine br_c (fun p0z => ?_) (fun p0z => br_f e (yin ⟨ip10, br_c (fun q => br_f p0z ⟨rfl, II⟩) (fun q => ⟨rfl, II⟩)⟩))
      unfold wpX_isClass
      refine br_f (nI_pos (by omega)) (br_f (nI_ge hpC (by omega)) (br_1 ⟨ip10, br_c (fun ifp => ?_) (fun ifp => br_f e (yin ⟨ip10, br_f ifp ⟨rfl, II⟩⟩))⟩))
      unfold wX_type_28
      refine pk_eq C 10 (fun e10 => br_f e (yin ⟨ip10, br_t ifp (br_t p0z ?_)⟩)) (fun e10 => ?_)
      · unfold wY_type_31
        exact br_t (by rw [e10]; rfl) ⟨rfl, II⟩
      · have i10 : vp_in (nI C) 10 := vp_in_nI (by omega) (by decide)
        have nCp : p ≠ C := by omega
        rw [nI_c (show C < 10000 by omega), nI_c (show p < 10000 by omega)]
        refine nm_r (nI_1 C) ⟨i10, nm_e ⟨i10, nm_e ⟨i10, nm_e ⟨i10, nm_e (br_f e ⟨i10, ip10, i10, nm_e ⟨i10, ip10, i10, nm_e ?_⟩⟩)⟩⟩⟩⟩
        refine br_f e (yin ⟨ip10, br_t ifp (br_t p0z ?_)⟩)
        unfold wY_type_31
        rw [nI_c (show C < 10000 by omega), nI_c (show p < 10000 by omega)]
        refine br_f (c10 h10 e10) (nm_r (nI_1 C) ⟨i10, nm_e ⟨i10, nm_e (br_t (nI_pos' (by omega)) ⟨ip10, ?_⟩)⟩⟩)
        unfold wY_type_91
        rw [nI_c (show C < 10000 by omega)]
        refine ⟨i10, nm_e ⟨i10, nm_e ⟨i10, nm_e ⟨rfl, ?_⟩⟩⟩⟩
        rw [pk_us, pk_un nCp, up_up, pk_us, pk_un nCp, up_up]
        refine rl_0 (C := C + 1) (k + 5) ho ht (fun c hc z => ?_) (tp_hi T (by omega) (hi_2 T.1 (by omega) hpC ifp _) (fun c hc => ?_) (fun c hc => pk_un (by omega)))
        · by_cases w : c = C
          · subst w
            rw [pk_us, p0z] at z
            exact absurd (by decide) z
          · rw [pk_un w] at z ⊢; exact hp c (by omega) z
        · by_cases w : c = C
          · subst w; rw [pk_us, pk_us]; exact Or.inl ⟨rfl, rfl⟩
          · rw [pk_un w, pk_un w]; exact T.2.1 c (by omega)
theorem i_vc_also {k : Nat} {u : SX} {v : SY} (I : i_Rel k u v) (hk : k + 5 ≤ 2560) (v1 : Int32) : wpX_also (fun r u' => wpY_also (fun r' v' => r' = r ∧ i_Rel (k + 5) u' v') v v1) u v1 := by
  obtain ⟨x_classCount, x_methodCount, x_ruleCount, x_isBuilt, x_faultPlace, x_namedClasses, x_madeClasses, x_namedMethods, x_liveMethods, x_depth, x_stepCount, x_outCount, x_traceCount, x_isInterfaceClass, x_chainOf, x_interfacesOf, x_ancestorsOf, x_homeOf, x_formOf, x_nameOf, x_lengthOf, x_opOf, x_classOf, x_numberOf, x_sourceMethod, x_sourceLine, x_callLine, x_ruleKind, x_ruleClasses, x_ruleNames, x_newNumber, x_familyOf, x_sightOf, x_frameRow, x_frameLine, x_frameHeld, x_outInts, x_traceMethod, x_traceLine⟩ := u; obtain ⟨y_classes, y_methods, y_rules, y_place, y_named, y_made, y_namedMethods, y_live, y_built, y_depth, y_steps, y_outs, y_ending, y_isInterface, y_isAbstract, y_parent, y_ancestors, y_own, y_many, y_home, y_name, y_length, y_op, y_first, y_second, y_ruleKind, y_ruleClasses, y_ruleNames, y_inlined, y_number, y_newName, y_family, y_vMethod, y_vLine, y_vHeld, y_put⟩ := v; have II := I; obtain ⟨C, M, R, t, o, rfl, rfl, rfl, rfl, rfl, rfl, rfl, rfl, rfl, rfl, rfl, rfl, rfl, rfl, rfl, rfl, rfl, rfl, rfl, rfl, rfl, ho, ht, hp, T, hb⟩ := (I : rl_p x_classCount x_methodCount x_ruleCount x_isBuilt x_faultPlace x_namedClasses x_madeClasses x_namedMethods x_liveMethods x_depth x_stepCount x_outCount x_traceCount x_isInterfaceClass x_chainOf x_interfacesOf x_ancestorsOf x_homeOf x_formOf x_nameOf x_lengthOf x_opOf x_classOf x_numberOf x_sourceMethod x_sourceLine x_callLine x_ruleKind x_ruleClasses x_ruleNames x_newNumber x_familyOf x_sightOf x_frameRow x_frameLine x_frameHeld x_outInts x_traceMethod x_traceLine y_classes y_methods y_rules y_place y_named y_made y_namedMethods y_live y_built y_depth y_steps y_outs y_ending y_isInterface y_isAbstract y_parent y_ancestors y_own y_many y_home y_name y_length y_op y_first y_second y_ruleKind y_ruleClasses y_ruleNames y_inlined y_number y_newName y_family y_vMethod y_vLine y_vHeld y_put)
  have h10 := T.1.1
  unfold wpX_also
  dsimp only
  rcases Nat.eq_zero_or_pos C with c0 | c0
  · subst c0
    have e : nI 0 - 1 = -1 := by decide
    refine nm_r e ?_
    have yy : wpY_also (fun r' v' => r' = 0 ∧ i_Rel (k + 5) (nI 0, nI M, nI R, x_isBuilt, x_faultPlace, x_namedClasses, x_madeClasses, x_namedMethods, x_liveMethods, x_depth, x_stepCount, nI o, nI t, x_isInterfaceClass, x_chainOf, x_interfacesOf, x_ancestorsOf, x_homeOf, x_formOf, x_nameOf, x_lengthOf, x_opOf, x_classOf, x_numberOf, x_sourceMethod, x_sourceLine, x_callLine, x_ruleKind, x_ruleClasses, x_ruleNames, x_newNumber, x_familyOf, x_sightOf, x_frameRow, x_frameLine, x_frameHeld, x_outInts, x_traceMethod, x_traceLine) v') (nI 0, nI M, nI R, x_faultPlace, y_named, y_made, y_namedMethods, y_live, x_isBuilt, nI t, x_stepCount, nI o, y_ending, x_isInterfaceClass, y_isAbstract, y_parent, x_ancestorsOf, x_interfacesOf, y_many, x_homeOf, y_name, y_length, y_op, y_first, y_second, x_ruleKind, x_ruleClasses, x_ruleNames, y_inlined, y_number, y_newName, y_family, y_vMethod, y_vLine, y_vHeld, x_outInts) v1 := by
      unfold wpY_also
      dsimp only
      exact nm_r e (br_t (by decide) ⟨rfl, II⟩)
    refine br_c (fun _ => yy) (fun z => br_t ?_ yy)
    obtain ⟨j, hj, rfl⟩ := nI_of z
    rw [Int32.le_iff_toInt_le, nI_toInt hj]
    have : (-1 : Int32).toInt = -1 := by decide
    omega
  · obtain ⟨c, rfl⟩ : ∃ c, C = c + 1 := ⟨C - 1, by omega⟩
    have ic : vp_in (nI c) 10 := vp_in_nI (by omega) (by decide)
    refine nm_r (nI_pred c) ?_
    have yb : (v1 < 0 ∨ nI c ≤ v1) → wpY_also (fun r' v' => r' = 0 ∧ i_Rel (k + 5) (nI (c + 1), nI M, nI R, x_isBuilt, x_faultPlace, x_namedClasses, x_madeClasses, x_namedMethods, x_liveMethods, x_depth, x_stepCount, nI o, nI t, x_isInterfaceClass, x_chainOf, x_interfacesOf, x_ancestorsOf, x_homeOf, x_formOf, x_nameOf, x_lengthOf, x_opOf, x_classOf, x_numberOf, x_sourceMethod, x_sourceLine, x_callLine, x_ruleKind, x_ruleClasses, x_ruleNames, x_newNumber, x_familyOf, x_sightOf, x_frameRow, x_frameLine, x_frameHeld, x_outInts, x_traceMethod, x_traceLine) v') (nI (c + 1), nI M, nI R, x_faultPlace, y_named, y_made, y_namedMethods, y_live, x_isBuilt, nI t, x_stepCount, nI o, y_ending, x_isInterfaceClass, y_isAbstract, y_parent, x_ancestorsOf, x_interfacesOf, y_many, x_homeOf, y_name, y_length, y_op, y_first, y_second, x_ruleKind, x_ruleClasses, x_ruleNames, y_inlined, y_number, y_newName, y_family, y_vMethod, y_vLine, y_vHeld, x_outInts) v1 := fun z => by
      unfold wpY_also
      dsimp only
      refine nm_r (nI_pred c) (br_f (nI_pos (by omega)) (yn_b (by omega) (fun j hj e => ?_) (fun _ => ⟨rfl, II⟩)))
      rw [e] at z
      exact absurd z (fun y => y.elim (nI_pos (by omega)) (nI_ge hj (by omega)))
    rcases pk_ix v1 (n := c) (by omega) with z | z | ⟨i, hi, rfl⟩
    · exact br_t z (yb (Or.inl z))
    · exact br_f (ix_0 (by omega) z) (br_t z (yb (Or.inr z)))
    · have ii : vp_in (nI i) 10 := vp_in_nI (by omega) (by decide)
      have ow := T.2.1 c (by omega)
      rw [nI_c (show i < 10000 by omega), nI_c (show c < 10000 by omega)]
      have ya : ∀ {P : Int32 → SY → Prop}, ((x_isInterfaceClass i = 0 → P 0 (nI (c + 1), nI M, nI R, x_faultPlace, y_named, y_made, y_namedMethods, y_live, x_isBuilt, nI t, x_stepCount, nI o, y_ending, x_isInterfaceClass, y_isAbstract, y_parent, x_ancestorsOf, x_interfacesOf, y_many, x_homeOf, y_name, y_length, y_op, y_first, y_second, x_ruleKind, x_ruleClasses, x_ruleNames, y_inlined, y_number, y_newName, y_family, y_vMethod, y_vLine, y_vHeld, x_outInts))) →
          (¬ x_isInterfaceClass i = 0 → (bt (x_interfacesOf c) i = true ∨ y_many c = 2) → P 0 (nI (c + 1), nI M, nI R, x_faultPlace, y_named, y_made, y_namedMethods, y_live, x_isBuilt, nI t, x_stepCount, nI o, y_ending, x_isInterfaceClass, y_isAbstract, y_parent, x_ancestorsOf, x_interfacesOf, y_many, x_homeOf, y_name, y_length, y_op, y_first, y_second, x_ruleKind, x_ruleClasses, x_ruleNames, y_inlined, y_number, y_newName, y_family, y_vMethod, y_vLine, y_vHeld, x_outInts)) →
          (¬ x_isInterfaceClass i = 0 → ¬ bt (x_interfacesOf c) i = true → ¬ y_many c = 2 → P 1 (nI (c + 1), nI M, nI R, x_faultPlace, y_named, y_made, y_namedMethods, y_live, 0, nI t, x_stepCount, nI o, y_ending, x_isInterfaceClass, y_isAbstract, y_parent, upd x_ancestorsOf c (x_ancestorsOf c ||| x_ancestorsOf i), upd x_interfacesOf c (x_interfacesOf c ||| ((1 : Int32) <<< (nI i &&& 31))), upd y_many c (y_many c + 1), x_homeOf, y_name, y_length, y_op, y_first, y_second, x_ruleKind, x_ruleClasses, x_ruleNames, y_inlined, y_number, y_newName, y_family, y_vMethod, y_vLine, y_vHeld, x_outInts)) →
          wpY_also P (nI (c + 1), nI M, nI R, x_faultPlace, y_named, y_made, y_namedMethods, y_live, x_isBuilt, nI t, x_stepCount, nI o, y_ending, x_isInterfaceClass, y_isAbstract, y_parent, x_ancestorsOf, x_interfacesOf, y_many, x_homeOf, y_name, y_length, y_op, y_first, y_second, x_ruleKind, x_ruleClasses, x_ruleNames, y_inlined, y_number, y_newName, y_family, y_vMethod, y_vLine, y_vHeld, x_outInts) (nI i) := by
        intro P k1 k2 k3
        unfold wpY_also
        dsimp only
        refine nm_r (nI_pred c) (br_f (nI_pos (by omega)) (yn_b (by omega) (fun _ _ _ => ⟨ii, ?_⟩) (fun z => absurd z (fun y => y.elim (nI_pos (by omega)) (nI_ge hi (by omega))))))
        rw [nI_c (show i < 10000 by omega), nI_c (show c < 10000 by omega)]
        refine br_c k1 (fun f => ⟨ic, yb_b (by omega) (fun b => k2 f (Or.inl b)) (fun b => ⟨ic, br_c (fun m2 => k2 f (Or.inr m2)) (fun m2 => ⟨ic, ic, nm_e ⟨ic, ic, nm_e ⟨ic, ii, ic, nm_e (k3 f b m2)⟩⟩⟩)⟩)⟩)
      refine br_f (nI_pos (by omega)) (br_f (nI_ge hi (by omega)) ⟨ii, br_c (fun f => ya (fun _ => ⟨rfl, II⟩) (fun q _ => absurd f q) (fun q _ _ => absurd f q)) (fun f => ⟨ic, nm_e ?_⟩)⟩)
      refine ek_if (ow_e ow) (fun m2 => ?_) (fun m2 => ?_)
      · unfold wX_also_47
        rw [nI_c (show i < 10000 by omega), nI_c (show c < 10000 by omega)]
        refine br_0 (xh_b (by omega) (fun b => ya (fun q => absurd q f) (fun _ _ => ⟨rfl, II⟩) (fun _ q _ => absurd b q)) (fun b => ⟨ic, nm_e ⟨ic, ii, ic, nm_e ?_⟩⟩))
        refine ya (fun q => absurd q f) (fun _ q => absurd q (fun z => z.elim b m2)) (fun _ _ _ => ⟨rfl, ?_⟩)
        refine rl_0 (C := c + 1) (k + 5) ho ht hp (tp_hi T (Nat.le_refl _) (hi_3 T.1 hp hi f) (fun d hd => ?_) (fun _ _ => rfl))
        by_cases w : d = c
        · subst w; rw [pk_us, pk_us]; exact ow_n ow m2 (by omega) b
        · rw [pk_un w, pk_un w]; exact T.2.1 d hd
      · unfold wX_also_47
        have m2' : y_many c = 2 := Decidable.byContradiction m2
        exact br_1 (ya (fun q => absurd q f) (fun _ _ => ⟨rfl, II⟩) (fun _ _ q => absurd m2' q))
