/-! ===== code ===== -/
section
variable {x_classCount x_methodCount x_ruleCount x_isBuilt x_faultPlace x_namedClasses x_madeClasses x_namedMethods x_liveMethods x_depth x_stepCount x_outCount x_traceCount : Int32} {x_isInterfaceClass x_chainOf x_interfacesOf x_ancestorsOf x_homeOf x_formOf x_nameOf x_lengthOf x_opOf x_classOf x_numberOf x_sourceMethod x_sourceLine x_callLine x_ruleKind x_ruleClasses x_ruleNames x_newNumber x_familyOf x_sightOf x_frameRow x_frameLine x_frameHeld x_outInts x_traceMethod x_traceLine : Nat → Int32} {y_classes y_methods y_rules y_place y_named y_made y_namedMethods y_live y_built y_depth y_steps y_outs y_ending : Int32} {y_isInterface y_isAbstract y_parent y_ancestors y_own y_many y_home y_name y_length y_op y_first y_second y_ruleKind y_ruleClasses y_ruleNames y_inlined y_number y_newName y_family y_vMethod y_vLine y_vHeld y_put : Nat → Int32} {C M R : Nat}
theorem tp_code {m l q : Nat} {cc nn c n : Int32} (T : tp_p C (m + 1) R x_isInterfaceClass x_ancestorsOf x_interfacesOf x_chainOf y_parent y_many x_homeOf x_ruleKind x_ruleClasses x_ruleNames x_formOf x_nameOf x_lengthOf y_isAbstract y_name y_length x_opOf x_classOf x_numberOf x_sourceMethod x_sourceLine x_callLine y_op y_first y_second) (el : y_length m = nI l) (l6 : l < 6) (o6 : q < 6)
    (hc : (1 ≤ q ∧ q ≤ 4) → ∃ j, j < 10 ∧ cc = nI j ∧ c = nI j) (hc' : ¬ (1 ≤ q ∧ q ≤ 4) → cc = -1) (hn : (q = 2 ∨ q = 3) → ∃ j, j < 10 ∧ nn = nI j ∧ n = nI j) (hn0 : q = 0 → nn = n) (hn' : ¬ (q = 0 ∨ q = 2 ∨ q = 3) → nn = 0) :
    tp_p C (m + 1) R x_isInterfaceClass x_ancestorsOf x_interfacesOf x_chainOf y_parent y_many x_homeOf x_ruleKind x_ruleClasses x_ruleNames x_formOf x_nameOf (upd x_lengthOf m (nI (l + 1))) y_isAbstract y_name (upd y_length m (nI (l + 1)))
      (upd x_opOf (24 * m + l) (nI q)) (upd x_classOf (24 * m + l) cc) (upd x_numberOf (24 * m + l) nn) (upd x_sourceMethod (24 * m + l) (nI m)) (upd x_sourceLine (24 * m + l) (nI l)) (upd x_callLine (24 * m + l) (-1))
      (upd y_op (6 * m + l) (nI q)) (upd y_first (6 * m + l) c) (upd y_second (6 * m + l) n) := by
  have T0 := T
  obtain ⟨h1, h2, h3, h4, h5, h6, h7, h8⟩ := T
  have h30 := h3.1
  have hl : hq_t (y_length m) = l := by rw [el]; exact hq_e (by omega)
  refine ⟨h1, h2, h3, fun m' hm' => ?_, h5, fun m' k hm' hk => ?_, h7, h8⟩
  · obtain ⟨p1, p2, p3, p4⟩ := h4 m' hm'
    refine ⟨p1, ?_, p3, p4⟩
    by_cases w : m' = m
    · subst w; rw [pk_us, pk_us]; exact ⟨l + 1, by omega, rfl, rfl⟩
    · rw [pk_un w, pk_un w]; exact p2
  · have k6 : k < 6 := by
      by_cases w : m' = m
      · subst w; rw [pk_us, hq_e (by omega)] at hk; omega
      · rw [pk_un w] at hk
        have := (tp_len T0 hm').2.2
        omega
    by_cases w : m' = m ∧ k = l
    · obtain ⟨w1, w2⟩ := w
      subst w1 w2
      rw [pk_us, pk_us, pk_us, pk_us, pk_us, pk_us, pk_us, pk_us, pk_us]
      exact ⟨q, o6, rfl, rfl, hc, hc', hn, hn0, hn', rfl, rfl, rfl⟩
    · have a1 : 24 * m' + k ≠ 24 * m + l := by omega
      have a2 : 6 * m' + k ≠ 6 * m + l := by omega
      rw [pk_un a1, pk_un a1, pk_un a1, pk_un a1, pk_un a1, pk_un a1, pk_un a2, pk_un a2, pk_un a2]
      refine h6 m' k hm' ?_
      by_cases x : m' = m
      · subst x; rw [pk_us, hq_e (by omega)] at hk; omega
      · rw [pk_un x] at hk; exact hk
theorem xo_113 {post : Int32 → SX → Prop} {m l q : Nat} {c n x5 x6 cc nn : Int32} (m30 : m < 30) (l6 : l < 6) (el : x_lengthOf m = nI l) (h5 : (x5 = 0 ∧ cc = -1) ∨ (¬ x5 = 0 ∧ cc = c)) (h6 : (x6 = 0 ∧ ¬ nI q = 0 ∧ nn = 0) ∨ (x6 = 0 ∧ nI q = 0 ∧ nn = n) ∨ (¬ x6 = 0 ∧ nn = n))
    (hp : post 1 (x_classCount, x_methodCount, x_ruleCount, 0, x_faultPlace, x_namedClasses, x_madeClasses, x_namedMethods, x_liveMethods, x_depth, x_stepCount, x_outCount, x_traceCount, x_isInterfaceClass, x_chainOf, x_interfacesOf, x_ancestorsOf, x_homeOf, x_formOf, x_nameOf, upd x_lengthOf m (nI (l + 1)), upd x_opOf (24 * m + l) (nI q), upd x_classOf (24 * m + l) cc, upd x_numberOf (24 * m + l) nn, upd x_sourceMethod (24 * m + l) (nI m), upd x_sourceLine (24 * m + l) (nI l), upd x_callLine (24 * m + l) (-1), x_ruleKind, x_ruleClasses, x_ruleNames, x_newNumber, x_familyOf, x_sightOf, x_frameRow, x_frameLine, x_frameHeld, x_outInts, x_traceMethod, x_traceLine)) : wX_code_113 post (nI q) c n (nI m) x5 x6 x_classCount x_methodCount x_ruleCount x_isBuilt x_faultPlace x_namedClasses x_madeClasses x_namedMethods x_liveMethods x_depth x_stepCount x_outCount x_traceCount x_isInterfaceClass x_chainOf x_interfacesOf x_ancestorsOf x_homeOf x_formOf x_nameOf x_lengthOf x_opOf x_classOf x_numberOf x_sourceMethod x_sourceLine x_callLine x_ruleKind x_ruleClasses x_ruleNames x_newNumber x_familyOf x_sightOf x_frameRow x_frameLine x_frameHeld x_outInts x_traceMethod x_traceLine := by
  have im : vp_in (nI m) 60 := vp_in_nI (by omega) (by decide)
  have ia : vp_in (nI (24 * m + l)) 1440 := vp_in_nI (by omega) (by decide)
  have e173 : ∀ {cl}, cl = upd x_classOf (24 * m + l) cc → wX_code_173 post (nI m) (nI (24 * m + l)) nn (nI (24 * m + l)) x_classCount x_methodCount x_ruleCount x_isBuilt x_faultPlace x_namedClasses x_madeClasses x_namedMethods x_liveMethods x_depth x_stepCount x_outCount x_traceCount x_isInterfaceClass x_chainOf x_interfacesOf x_ancestorsOf x_homeOf x_formOf x_nameOf x_lengthOf (upd x_opOf (24 * m + l) (nI q)) cl x_numberOf x_sourceMethod x_sourceLine x_callLine x_ruleKind x_ruleClasses x_ruleNames x_newNumber x_familyOf x_sightOf x_frameRow x_frameLine x_frameHeld x_outInts x_traceMethod x_traceLine := fun e => by
    subst e
    unfold wX_code_173
    rw [nI_c (show m < 10000 by omega), nI_c (show 24 * m + l < 10000 by omega), el, nI_1]
    exact ⟨ia, nm_e ⟨ia, nm_e ⟨im, ia, nm_e ⟨ia, nm_e ⟨im, im, nm_e hp⟩⟩⟩⟩⟩
  have e152 : wX_code_152 post (nI q) n (nI m) x6 (nI (24 * m + l)) cc (nI (24 * m + l)) x_classCount x_methodCount x_ruleCount x_isBuilt x_faultPlace x_namedClasses x_madeClasses x_namedMethods x_liveMethods x_depth x_stepCount x_outCount x_traceCount x_isInterfaceClass x_chainOf x_interfacesOf x_ancestorsOf x_homeOf x_formOf x_nameOf x_lengthOf (upd x_opOf (24 * m + l) (nI q)) x_classOf x_numberOf x_sourceMethod x_sourceLine x_callLine x_ruleKind x_ruleClasses x_ruleNames x_newNumber x_familyOf x_sightOf x_frameRow x_frameLine x_frameHeld x_outInts x_traceMethod x_traceLine := by
    unfold wX_code_152
    rw [nI_c (show 24 * m + l < 10000 by omega)]
    refine ⟨ia, nm_e ?_⟩
    rcases h6 with ⟨a1, a2, a3⟩ | ⟨a1, a2, a3⟩ | ⟨a1, a3⟩
    · have := e173 rfl
      rw [a3] at this
      exact br_t a1 (br_f a2 this)
    · have := e173 rfl
      rw [a3] at this
      refine br_t a1 (br_t a2 ?_)
      unfold wX_code_168
      exact this
    · have := e173 rfl
      rw [a3] at this
      refine br_f a1 ?_
      unfold wX_code_168
      exact this
  unfold wX_code_113
  refine ⟨im, ?_⟩
  rw [nI_c (show m < 10000 by omega), el, nI_a24]
  refine nm_e ⟨ia, ?_⟩
  rw [nI_c (show 24 * m + l < 10000 by omega)]
  refine nm_e ?_
  rcases h5 with ⟨a1, a2⟩ | ⟨a1, a2⟩
  · rw [a2] at e152; exact br_t a1 e152
  · rw [a2] at e152; exact br_f a1 e152
end
theorem i_vc_code {k : Nat} {u : SX} {v : SY} (I : i_Rel k u v) (hk : k + 5 ≤ 2560) (v1 : Int32) (v2 : Int32) (v3 : Int32) : wpX_code (fun r u' => wpY_code (fun r' v' => r' = r ∧ i_Rel (k + 5) u' v') v v1 v2 v3) u v1 v2 v3 := by
  obtain ⟨x_classCount, x_methodCount, x_ruleCount, x_isBuilt, x_faultPlace, x_namedClasses, x_madeClasses, x_namedMethods, x_liveMethods, x_depth, x_stepCount, x_outCount, x_traceCount, x_isInterfaceClass, x_chainOf, x_interfacesOf, x_ancestorsOf, x_homeOf, x_formOf, x_nameOf, x_lengthOf, x_opOf, x_classOf, x_numberOf, x_sourceMethod, x_sourceLine, x_callLine, x_ruleKind, x_ruleClasses, x_ruleNames, x_newNumber, x_familyOf, x_sightOf, x_frameRow, x_frameLine, x_frameHeld, x_outInts, x_traceMethod, x_traceLine⟩ := u; obtain ⟨y_classes, y_methods, y_rules, y_place, y_named, y_made, y_namedMethods, y_live, y_built, y_depth, y_steps, y_outs, y_ending, y_isInterface, y_isAbstract, y_parent, y_ancestors, y_own, y_many, y_home, y_name, y_length, y_op, y_first, y_second, y_ruleKind, y_ruleClasses, y_ruleNames, y_inlined, y_number, y_newName, y_family, y_vMethod, y_vLine, y_vHeld, y_put⟩ := v; have II := I; obtain ⟨C, M, R, t, o, rfl, rfl, rfl, rfl, rfl, rfl, rfl, rfl, rfl, rfl, rfl, rfl, rfl, rfl, rfl, rfl, rfl, rfl, rfl, rfl, rfl, ho, ht, hp, T, hb⟩ := (I : rl_p x_classCount x_methodCount x_ruleCount x_isBuilt x_faultPlace x_namedClasses x_madeClasses x_namedMethods x_liveMethods x_depth x_stepCount x_outCount x_traceCount x_isInterfaceClass x_chainOf x_interfacesOf x_ancestorsOf x_homeOf x_formOf x_nameOf x_lengthOf x_opOf x_classOf x_numberOf x_sourceMethod x_sourceLine x_callLine x_ruleKind x_ruleClasses x_ruleNames x_newNumber x_familyOf x_sightOf x_frameRow x_frameLine x_frameHeld x_outInts x_traceMethod x_traceLine y_classes y_methods y_rules y_place y_named y_made y_namedMethods y_live y_built y_depth y_steps y_outs y_ending y_isInterface y_isAbstract y_parent y_ancestors y_own y_many y_home y_name y_length y_op y_first y_second y_ruleKind y_ruleClasses y_ruleNames y_inlined y_number y_newName y_family y_vMethod y_vLine y_vHeld y_put)
  have h10 := T.1.1
  have h30 := T.2.2.1.1
  unfold wpX_code
  dsimp only
  rcases Nat.eq_zero_or_pos M with c0 | c0
  · subst c0
    have e : nI 0 - 1 = -1 := by decide
    refine nm_r e (br_t (by decide) ?_)
    unfold wpY_code
    dsimp only
    exact nm_r e (br_t (by decide) ⟨rfl, II⟩)
  · obtain ⟨m, rfl⟩ : ∃ m, M = m + 1 := ⟨M - 1, by omega⟩
    have im : vp_in (nI m) 60 := vp_in_nI (by omega) (by decide)
    have im3 : vp_in (nI m) 30 := vp_in_nI (by omega) (by decide)
    obtain ⟨l1, l2, l6⟩ := tp_len T (m := m) (by omega)
    refine nm_r (nI_pred m) (br_f (nI_pos (by omega)) ⟨im, ?_⟩)
    rw [nI_c (show m < 10000 by omega), l1]
    have Y0 : ∀ {P : Int32 → SY → Prop}, ((y_isAbstract m = 0 → (y_length m = 6 → P 0 (nI C, nI (m + 1), nI R, x_faultPlace, y_named, y_made, y_namedMethods, y_live, x_isBuilt, nI t, x_stepCount, nI o, y_ending, x_isInterfaceClass, y_isAbstract, y_parent, x_ancestorsOf, x_interfacesOf, y_many, x_homeOf, y_name, y_length, y_op, y_first, y_second, x_ruleKind, x_ruleClasses, x_ruleNames, y_inlined, y_number, y_newName, y_family, y_vMethod, y_vLine, y_vHeld, x_outInts)) ∧ (¬ y_length m = 6 → wpY_in (fun r => (r = 0 → P 0 (nI C, nI (m + 1), nI R, x_faultPlace, y_named, y_made, y_namedMethods, y_live, x_isBuilt, nI t, x_stepCount, nI o, y_ending, x_isInterfaceClass, y_isAbstract, y_parent, x_ancestorsOf, x_interfacesOf, y_many, x_homeOf, y_name, y_length, y_op, y_first, y_second, x_ruleKind, x_ruleClasses, x_ruleNames, y_inlined, y_number, y_newName, y_family, y_vMethod, y_vLine, y_vHeld, x_outInts)) ∧ (¬ r = 0 → ((v1 < 1 → wY_code_63 P v1 v2 v3 (nI m) (nI C) (nI (m + 1)) (nI R) x_faultPlace y_named y_made y_namedMethods y_live x_isBuilt (nI t) x_stepCount (nI o) y_ending x_isInterfaceClass y_isAbstract y_parent x_ancestorsOf x_interfacesOf y_many x_homeOf y_name y_length y_op y_first y_second x_ruleKind x_ruleClasses x_ruleNames y_inlined y_number y_newName y_family y_vMethod y_vLine y_vHeld x_outInts) ∧ (¬ v1 < 1 → ((4 < v1 → wY_code_63 P v1 v2 v3 (nI m) (nI C) (nI (m + 1)) (nI R) x_faultPlace y_named y_made y_namedMethods y_live x_isBuilt (nI t) x_stepCount (nI o) y_ending x_isInterfaceClass y_isAbstract y_parent x_ancestorsOf x_interfacesOf y_many x_homeOf y_name y_length y_op y_first y_second x_ruleKind x_ruleClasses x_ruleNames y_inlined y_number y_newName y_family y_vMethod y_vLine y_vHeld x_outInts) ∧ (¬ 4 < v1 → wpY_in (fun r => (r = 0 → P 0 (nI C, nI (m + 1), nI R, x_faultPlace, y_named, y_made, y_namedMethods, y_live, x_isBuilt, nI t, x_stepCount, nI o, y_ending, x_isInterfaceClass, y_isAbstract, y_parent, x_ancestorsOf, x_interfacesOf, y_many, x_homeOf, y_name, y_length, y_op, y_first, y_second, x_ruleKind, x_ruleClasses, x_ruleNames, y_inlined, y_number, y_newName, y_family, y_vMethod, y_vLine, y_vHeld, x_outInts)) ∧ (¬ r = 0 → wY_code_63 P v1 v2 v3 (nI m) (nI C) (nI (m + 1)) (nI R) x_faultPlace y_named y_made y_namedMethods y_live x_isBuilt (nI t) x_stepCount (nI o) y_ending x_isInterfaceClass y_isAbstract y_parent x_ancestorsOf x_interfacesOf y_many x_homeOf y_name y_length y_op y_first y_second x_ruleKind x_ruleClasses x_ruleNames y_inlined y_number y_newName y_family y_vMethod y_vLine y_vHeld x_outInts)) v2 10)))))) v1 6)) ∧ (¬ y_isAbstract m = 0 → P 0 (nI C, nI (m + 1), nI R, x_faultPlace, y_named, y_made, y_namedMethods, y_live, x_isBuilt, nI t, x_stepCount, nI o, y_ending, x_isInterfaceClass, y_isAbstract, y_parent, x_ancestorsOf, x_interfacesOf, y_many, x_homeOf, y_name, y_length, y_op, y_first, y_second, x_ruleKind, x_ruleClasses, x_ruleNames, y_inlined, y_number, y_newName, y_family, y_vMethod, y_vLine, y_vHeld, x_outInts))) → wpY_code P (nI C, nI (m + 1), nI R, x_faultPlace, y_named, y_made, y_namedMethods, y_live, x_isBuilt, nI t, x_stepCount, nI o, y_ending, x_isInterfaceClass, y_isAbstract, y_parent, x_ancestorsOf, x_interfacesOf, y_many, x_homeOf, y_name, y_length, y_op, y_first, y_second, x_ruleKind, x_ruleClasses, x_ruleNames, y_inlined, y_number, y_newName, y_family, y_vMethod, y_vLine, y_vHeld, x_outInts) v1 v2 v3 := fun h => by
      unfold wpY_code
      dsimp only
      refine nm_r (nI_pred m) (br_f (nI_pos (by omega)) ⟨im3, ?_⟩)
      rw [nI_c (show m < 10000 by omega)]
      exact br_c (fun a => ⟨im3, h.1 a⟩) h.2
    rcases (T.2.2.2.1 m (by omega)).2.2.1 with ⟨a1, a2⟩ | ⟨a1, a2⟩
    · refine br_t a2 ⟨im, ?_⟩
      refine pk_eq (hq_t (y_length m)) 6 (fun e => Y0 ⟨fun _ => br_t (by rw [l2, e]; rfl) ⟨rfl, II⟩, fun z => absurd a1 z⟩) (fun e => ?_)
      have ne6 : ¬ y_length m = 6 := fun z => by
        rw [l2] at z
        exact e ((nI_eq (b := 6) (by omega) (by omega)).mp z)
      generalize el : hq_t (y_length m) = l at *
      have Y1 : ∀ {P : Int32 → SY → Prop}, wpY_in (fun r => (r = 0 → P 0 (nI C, nI (m + 1), nI R, x_faultPlace, y_named, y_made, y_namedMethods, y_live, x_isBuilt, nI t, x_stepCount, nI o, y_ending, x_isInterfaceClass, y_isAbstract, y_parent, x_ancestorsOf, x_interfacesOf, y_many, x_homeOf, y_name, y_length, y_op, y_first, y_second, x_ruleKind, x_ruleClasses, x_ruleNames, y_inlined, y_number, y_newName, y_family, y_vMethod, y_vLine, y_vHeld, x_outInts)) ∧ (¬ r = 0 → ((v1 < 1 → wY_code_63 P v1 v2 v3 (nI m) (nI C) (nI (m + 1)) (nI R) x_faultPlace y_named y_made y_namedMethods y_live x_isBuilt (nI t) x_stepCount (nI o) y_ending x_isInterfaceClass y_isAbstract y_parent x_ancestorsOf x_interfacesOf y_many x_homeOf y_name y_length y_op y_first y_second x_ruleKind x_ruleClasses x_ruleNames y_inlined y_number y_newName y_family y_vMethod y_vLine y_vHeld x_outInts) ∧ (¬ v1 < 1 → ((4 < v1 → wY_code_63 P v1 v2 v3 (nI m) (nI C) (nI (m + 1)) (nI R) x_faultPlace y_named y_made y_namedMethods y_live x_isBuilt (nI t) x_stepCount (nI o) y_ending x_isInterfaceClass y_isAbstract y_parent x_ancestorsOf x_interfacesOf y_many x_homeOf y_name y_length y_op y_first y_second x_ruleKind x_ruleClasses x_ruleNames y_inlined y_number y_newName y_family y_vMethod y_vLine y_vHeld x_outInts) ∧ (¬ 4 < v1 → wpY_in (fun r => (r = 0 → P 0 (nI C, nI (m + 1), nI R, x_faultPlace, y_named, y_made, y_namedMethods, y_live, x_isBuilt, nI t, x_stepCount, nI o, y_ending, x_isInterfaceClass, y_isAbstract, y_parent, x_ancestorsOf, x_interfacesOf, y_many, x_homeOf, y_name, y_length, y_op, y_first, y_second, x_ruleKind, x_ruleClasses, x_ruleNames, y_inlined, y_number, y_newName, y_family, y_vMethod, y_vLine, y_vHeld, x_outInts)) ∧ (¬ r = 0 → wY_code_63 P v1 v2 v3 (nI m) (nI C) (nI (m + 1)) (nI R) x_faultPlace y_named y_made y_namedMethods y_live x_isBuilt (nI t) x_stepCount (nI o) y_ending x_isInterfaceClass y_isAbstract y_parent x_ancestorsOf x_interfacesOf y_many x_homeOf y_name y_length y_op y_first y_second x_ruleKind x_ruleClasses x_ruleNames y_inlined y_number y_newName y_family y_vMethod y_vLine y_vHeld x_outInts)) v2 10)))))) v1 6 → wpY_code P (nI C, nI (m + 1), nI R, x_faultPlace, y_named, y_made, y_namedMethods, y_live, x_isBuilt, nI t, x_stepCount, nI o, y_ending, x_isInterfaceClass, y_isAbstract, y_parent, x_ancestorsOf, x_interfacesOf, y_many, x_homeOf, y_name, y_length, y_op, y_first, y_second, x_ruleKind, x_ruleClasses, x_ruleNames, y_inlined, y_number, y_newName, y_family, y_vMethod, y_vLine, y_vHeld, x_outInts) v1 v2 v3 := fun h => Y0 ⟨fun _ => br_f ne6 h, fun z => absurd a1 z⟩
      rcases pk_ix v1 (n := 6) (by decide) with z | z | ⟨q, hq, rfl⟩
      · exact br_t z (Y1 (yn_b (n := 6) (by decide) (fun j hj e => absurd z (by rw [e]; exact nI_pos (by omega))) (fun _ => ⟨rfl, II⟩)))
      · have z1 : ¬ v1 ≤ 5 := fun q => by
          rw [Int32.le_iff_toInt_le] at q z
          have e1 : (5 : Int32).toInt = 5 := by decide
          have e2 : (nI 6).toInt = 6 := by decide
          omega
        exact br_f (ix_0 (by decide) z) (br_f z1 (Y1 (yn_b (n := 6) (by decide) (fun j hj e => absurd z (by rw [e]; exact nI_ge hj (by decide))) (fun _ => ⟨rfl, II⟩))))
      · refine br_f (nI_pos (by omega)) (br_t (nI_le (b := 5) (by omega) (by decide)) ?_)
        have l6' : l < 6 := by omega
        have m30 : m < 30 := by omega
        have in6 : ∀ {A B : Prop}, B → wpY_in (fun r => (r = 0 → A) ∧ (¬ r = 0 → B)) (nI q) 6 := fun b => yn_b (n := 6) (by decide) (fun _ _ _ => b) (fun z => absurd z (fun y => y.elim (nI_pos (by omega)) (nI_ge hq (by decide))))
        have i180 : vp_in (nI (6 * m + l)) 180 := vp_in_nI (by omega) (by decide)
        have y84 : ∀ {P : Int32 → SY → Prop}, P 1 (nI C, nI (m + 1), nI R, x_faultPlace, y_named, y_made, y_namedMethods, y_live, 0, nI t, x_stepCount, nI o, y_ending, x_isInterfaceClass, y_isAbstract, y_parent, x_ancestorsOf, x_interfacesOf, y_many, x_homeOf, y_name, upd y_length m (nI (l + 1)), upd y_op (6 * m + l) (nI q), upd y_first (6 * m + l) v2, upd y_second (6 * m + l) v3, x_ruleKind, x_ruleClasses, x_ruleNames, y_inlined, y_number, y_newName, y_family, y_vMethod, y_vLine, y_vHeld, x_outInts) → wY_code_84 P (nI q) v2 v3 (nI m) (nI C) (nI (m + 1)) (nI R) x_faultPlace y_named y_made y_namedMethods y_live x_isBuilt (nI t) x_stepCount (nI o) y_ending x_isInterfaceClass y_isAbstract y_parent x_ancestorsOf x_interfacesOf y_many x_homeOf y_name y_length y_op y_first y_second x_ruleKind x_ruleClasses x_ruleNames y_inlined y_number y_newName y_family y_vMethod y_vLine y_vHeld x_outInts := fun h => by
          unfold wY_code_84
          rw [nI_c (show m < 10000 by omega), l2, nI_1, nI_a6]
          refine ⟨im3, im3, nm_e (nm_e ⟨i180, ?_⟩)⟩
          rw [nI_c (show 6 * m + l < 10000 by omega)]
          exact nm_e ⟨i180, nm_e ⟨i180, nm_e h⟩⟩
        have nb : ∀ x : Int32, (x < 0 ∨ nI 10 ≤ x) ∨ ∃ j, j < 10 ∧ x = nI j := fun x => by
          rcases pk_ix x (n := 10) (by decide) with z | z | z
          · exact Or.inl (Or.inl z)
          · exact Or.inl (Or.inr z)
          · exact Or.inr z
        have inA : ∀ {A B : Prop} {x : Int32}, (x < 0 ∨ nI 10 ≤ x) → A → wpY_in (fun r => (r = 0 → A) ∧ (¬ r = 0 → B)) x 10 := fun z a => yn_b (n := 10) (by decide) (fun j hj e => absurd z (by rw [e]; exact fun y => y.elim (nI_pos (by omega)) (nI_ge hj (by decide)))) (fun _ => a)
        have inB : ∀ {A B : Prop} {j : Nat}, j < 10 → B → wpY_in (fun r => (r = 0 → A) ∧ (¬ r = 0 → B)) (nI j) 10 := fun hj b => yn_b (n := 10) (by decide) (fun _ _ _ => b) (fun z => absurd z (fun y => y.elim (nI_pos (by omega)) (nI_ge hj (by decide))))
        have fin : ∀ {x5 x6 cc nn : Int32}, ((x5 = 0 ∧ cc = -1) ∨ (¬ x5 = 0 ∧ cc = v2)) → ((x6 = 0 ∧ ¬ nI q = 0 ∧ nn = 0) ∨ (x6 = 0 ∧ nI q = 0 ∧ nn = v3) ∨ (¬ x6 = 0 ∧ nn = v3)) →
            ((1 ≤ q ∧ q ≤ 4) → ∃ j, j < 10 ∧ cc = nI j ∧ v2 = nI j) → (¬ (1 ≤ q ∧ q ≤ 4) → cc = -1) → ((q = 2 ∨ q = 3) → ∃ j, j < 10 ∧ nn = nI j ∧ v3 = nI j) → (q = 0 → nn = v3) → (¬ (q = 0 ∨ q = 2 ∨ q = 3) → nn = 0) →
            ((wY_code_84 (fun r' v' => r' = 1 ∧ i_Rel (k + 5) (nI C, nI (m + 1), nI R, 0, x_faultPlace, x_namedClasses, x_madeClasses, x_namedMethods, x_liveMethods, x_depth, x_stepCount, nI o, nI t, x_isInterfaceClass, x_chainOf, x_interfacesOf, x_ancestorsOf, x_homeOf, x_formOf, x_nameOf, upd x_lengthOf m (nI (l + 1)), upd x_opOf (24 * m + l) (nI q), upd x_classOf (24 * m + l) cc, upd x_numberOf (24 * m + l) nn, upd x_sourceMethod (24 * m + l) (nI m), upd x_sourceLine (24 * m + l) (nI l), upd x_callLine (24 * m + l) (-1), x_ruleKind, x_ruleClasses, x_ruleNames, x_newNumber, x_familyOf, x_sightOf, x_frameRow, x_frameLine, x_frameHeld, x_outInts, x_traceMethod, x_traceLine) v') (nI q) v2 v3 (nI m) (nI C) (nI (m + 1)) (nI R) x_faultPlace y_named y_made y_namedMethods y_live x_isBuilt (nI t) x_stepCount (nI o) y_ending x_isInterfaceClass y_isAbstract y_parent x_ancestorsOf x_interfacesOf y_many x_homeOf y_name y_length y_op y_first y_second x_ruleKind x_ruleClasses x_ruleNames y_inlined y_number y_newName y_family y_vMethod y_vLine y_vHeld x_outInts) →
              wpY_code (fun r' v' => r' = 1 ∧ i_Rel (k + 5) (nI C, nI (m + 1), nI R, 0, x_faultPlace, x_namedClasses, x_madeClasses, x_namedMethods, x_liveMethods, x_depth, x_stepCount, nI o, nI t, x_isInterfaceClass, x_chainOf, x_interfacesOf, x_ancestorsOf, x_homeOf, x_formOf, x_nameOf, upd x_lengthOf m (nI (l + 1)), upd x_opOf (24 * m + l) (nI q), upd x_classOf (24 * m + l) cc, upd x_numberOf (24 * m + l) nn, upd x_sourceMethod (24 * m + l) (nI m), upd x_sourceLine (24 * m + l) (nI l), upd x_callLine (24 * m + l) (-1), x_ruleKind, x_ruleClasses, x_ruleNames, x_newNumber, x_familyOf, x_sightOf, x_frameRow, x_frameLine, x_frameHeld, x_outInts, x_traceMethod, x_traceLine) v') (nI C, nI (m + 1), nI R, x_faultPlace, y_named, y_made, y_namedMethods, y_live, x_isBuilt, nI t, x_stepCount, nI o, y_ending, x_isInterfaceClass, y_isAbstract, y_parent, x_ancestorsOf, x_interfacesOf, y_many, x_homeOf, y_name, y_length, y_op, y_first, y_second, x_ruleKind, x_ruleClasses, x_ruleNames, y_inlined, y_number, y_newName, y_family, y_vMethod, y_vLine, y_vHeld, x_outInts) (nI q) v2 v3) →
            wX_code_113 (fun r u' => wpY_code (fun r' v' => r' = r ∧ i_Rel (k + 5) u' v') (nI C, nI (m + 1), nI R, x_faultPlace, y_named, y_made, y_namedMethods, y_live, x_isBuilt, nI t, x_stepCount, nI o, y_ending, x_isInterfaceClass, y_isAbstract, y_parent, x_ancestorsOf, x_interfacesOf, y_many, x_homeOf, y_name, y_length, y_op, y_first, y_second, x_ruleKind, x_ruleClasses, x_ruleNames, y_inlined, y_number, y_newName, y_family, y_vMethod, y_vLine, y_vHeld, x_outInts) (nI q) v2 v3) (nI q) v2 v3 (nI m) x5 x6 (nI C) (nI (m + 1)) (nI R) x_isBuilt x_faultPlace x_namedClasses x_madeClasses x_namedMethods x_liveMethods x_depth x_stepCount (nI o) (nI t) x_isInterfaceClass x_chainOf x_interfacesOf x_ancestorsOf x_homeOf x_formOf x_nameOf x_lengthOf x_opOf x_classOf x_numberOf x_sourceMethod x_sourceLine x_callLine x_ruleKind x_ruleClasses x_ruleNames x_newNumber x_familyOf x_sightOf x_frameRow x_frameLine x_frameHeld x_outInts x_traceMethod x_traceLine := fun b1 b2 b3 b4 b5 b6 b7 yy =>
          xo_113 m30 l6' l1 b1 b2 (yy (y84 ⟨rfl, rl_0 (M := m + 1) (k + 5) ho ht hp (tp_code T l2 l6' hq b3 b4 b5 b6 b7)⟩))
        rcases (by omega : q = 0 ∨ q = 1 ∨ q = 2 ∨ q = 3 ∨ q = 4 ∨ q = 5) with w | w | w | w | w | w
        · subst w
          refine br_t (by decide) ?_
          unfold wX_code_61 wX_code_62
          refine br_f (by decide) (br_f (by decide) ?_)
          unfold wX_code_79
          refine br_t rfl ?_
          unfold wX_code_96
          refine br_t rfl (fin (Or.inl ⟨rfl, rfl⟩) (Or.inr (Or.inl ⟨rfl, rfl, rfl⟩)) (fun z => absurd z (by omega)) (fun _ => rfl) (fun z => absurd z (by omega)) (fun _ => rfl) (fun z => absurd (Or.inl rfl) z) (fun h => Y1 (in6 (br_t (by decide) ?_))))
          unfold wY_code_63
          exact br_f (by decide) (br_f (by decide) h)
        · subst w
          refine br_f (by decide) (br_f (by decide) ?_)
          unfold wX_code_62
          refine br_f (by decide) (br_f (by decide) ?_)
          unfold wX_code_79
          refine br_f (by decide) ?_
          rcases nb v2 with z | ⟨j, hj, ej⟩
          · have bad := Y1 (P := fun r' v' => r' = 0 ∧ i_Rel (k + 5) (nI C, nI (m + 1), nI R, x_isBuilt, x_faultPlace, x_namedClasses, x_madeClasses, x_namedMethods, x_liveMethods, x_depth, x_stepCount, nI o, nI t, x_isInterfaceClass, x_chainOf, x_interfacesOf, x_ancestorsOf, x_homeOf, x_formOf, x_nameOf, x_lengthOf, x_opOf, x_classOf, x_numberOf, x_sourceMethod, x_sourceLine, x_callLine, x_ruleKind, x_ruleClasses, x_ruleNames, x_newNumber, x_familyOf, x_sightOf, x_frameRow, x_frameLine, x_frameHeld, x_outInts, x_traceMethod, x_traceLine) v') (in6 (br_f (by decide) (br_f (by decide) (inA z ⟨rfl, II⟩))))
            rcases z with z | z
            · exact br_t z bad
            · exact br_f (ix_0 (by decide) z) (br_t z bad)
          · refine br_f (by rw [ej]; exact nI_pos (by omega)) (br_f (by rw [ej]; exact nI_ge (b := 10) hj (by decide)) ?_)
            unfold wX_code_96
            refine br_t rfl (fin (cc := v2) (Or.inr ⟨by decide, rfl⟩) (Or.inl ⟨rfl, by decide, rfl⟩) (fun _ => ⟨j, hj, ej, ej⟩) (fun z => absurd z (by omega)) (fun z => absurd z (by omega)) (fun z => absurd z (by omega)) (fun _ => rfl) (fun h => Y1 (in6 (br_f (by decide) (br_f (by decide) ?_)))))
            rw [ej] at h ⊢
            refine inB hj ?_
            unfold wY_code_63
            exact br_f (by decide) (br_f (by decide) h)
        · subst w
          refine br_f (by decide) (br_f (by decide) ?_)
          unfold wX_code_62
          refine br_t rfl ?_
          unfold wX_code_74 wX_code_79
          refine br_f (by decide) ?_
          rcases nb v2 with z | ⟨j, hj, ej⟩
          · have bad := Y1 (P := fun r' v' => r' = 0 ∧ i_Rel (k + 5) (nI C, nI (m + 1), nI R, x_isBuilt, x_faultPlace, x_namedClasses, x_madeClasses, x_namedMethods, x_liveMethods, x_depth, x_stepCount, nI o, nI t, x_isInterfaceClass, x_chainOf, x_interfacesOf, x_ancestorsOf, x_homeOf, x_formOf, x_nameOf, x_lengthOf, x_opOf, x_classOf, x_numberOf, x_sourceMethod, x_sourceLine, x_callLine, x_ruleKind, x_ruleClasses, x_ruleNames, x_newNumber, x_familyOf, x_sightOf, x_frameRow, x_frameLine, x_frameHeld, x_outInts, x_traceMethod, x_traceLine) v') (in6 (br_f (by decide) (br_f (by decide) (inA z ⟨rfl, II⟩))))
            rcases z with z | z
            · exact br_t z bad
            · exact br_f (ix_0 (by decide) z) (br_t z bad)
          · refine br_f (by rw [ej]; exact nI_pos (by omega)) (br_f (by rw [ej]; exact nI_ge (b := 10) hj (by decide)) ?_)
            unfold wX_code_96
            refine br_f (by decide) ?_
            rcases nb v3 with z | ⟨i, hi, ei⟩
            · have bad : wpY_code (fun r' v' => r' = 0 ∧ i_Rel (k + 5) (nI C, nI (m + 1), nI R, x_isBuilt, x_faultPlace, x_namedClasses, x_madeClasses, x_namedMethods, x_liveMethods, x_depth, x_stepCount, nI o, nI t, x_isInterfaceClass, x_chainOf, x_interfacesOf, x_ancestorsOf, x_homeOf, x_formOf, x_nameOf, x_lengthOf, x_opOf, x_classOf, x_numberOf, x_sourceMethod, x_sourceLine, x_callLine, x_ruleKind, x_ruleClasses, x_ruleNames, x_newNumber, x_familyOf, x_sightOf, x_frameRow, x_frameLine, x_frameHeld, x_outInts, x_traceMethod, x_traceLine) v') (nI C, nI (m + 1), nI R, x_faultPlace, y_named, y_made, y_namedMethods, y_live, x_isBuilt, nI t, x_stepCount, nI o, y_ending, x_isInterfaceClass, y_isAbstract, y_parent, x_ancestorsOf, x_interfacesOf, y_many, x_homeOf, y_name, y_length, y_op, y_first, y_second, x_ruleKind, x_ruleClasses, x_ruleNames, y_inlined, y_number, y_newName, y_family, y_vMethod, y_vLine, y_vHeld, x_outInts) (nI 2) v2 v3 := by
                refine Y1 (in6 (br_f (by decide) (br_f (by decide) ?_)))
                rw [ej]
                refine inB hj ?_
                unfold wY_code_63
                refine br_t rfl ?_
                unfold wY_code_73
                exact inA z ⟨rfl, II⟩
              rcases z with z | z
              · exact br_t z bad
              · exact br_f (ix_0 (by decide) z) (br_f (ix_l z) bad)
            · refine br_f (by rw [ei]; exact nI_pos (by omega)) (br_t (by rw [ei]; exact nI_lt (b := 10) hi (by decide)) ?_)
              refine fin (cc := v2) (nn := v3) (Or.inr ⟨by decide, rfl⟩) (Or.inr (Or.inr ⟨by decide, rfl⟩)) (fun _ => ⟨j, hj, ej, ej⟩) (fun z => absurd z (by omega)) (fun _ => ⟨i, hi, ei, ei⟩) (fun z => absurd z (by omega)) (fun z => absurd z (by omega)) (fun h => Y1 (in6 (br_f (by decide) (br_f (by decide) ?_))))
              rw [ej, ei] at h ⊢
              refine inB hj ?_
              unfold wY_code_63
              refine br_t rfl ?_
              unfold wY_code_73
              exact inB hi h
        · subst w
          refine br_f (by decide) (br_f (by decide) ?_)
          unfold wX_code_62
          refine br_f (by decide) (br_t rfl ?_)
          unfold wX_code_74 wX_code_79
          refine br_f (by decide) ?_
          rcases nb v2 with z | ⟨j, hj, ej⟩
          · have bad := Y1 (P := fun r' v' => r' = 0 ∧ i_Rel (k + 5) (nI C, nI (m + 1), nI R, x_isBuilt, x_faultPlace, x_namedClasses, x_madeClasses, x_namedMethods, x_liveMethods, x_depth, x_stepCount, nI o, nI t, x_isInterfaceClass, x_chainOf, x_interfacesOf, x_ancestorsOf, x_homeOf, x_formOf, x_nameOf, x_lengthOf, x_opOf, x_classOf, x_numberOf, x_sourceMethod, x_sourceLine, x_callLine, x_ruleKind, x_ruleClasses, x_ruleNames, x_newNumber, x_familyOf, x_sightOf, x_frameRow, x_frameLine, x_frameHeld, x_outInts, x_traceMethod, x_traceLine) v') (in6 (br_f (by decide) (br_f (by decide) (inA z ⟨rfl, II⟩))))
            rcases z with z | z
            · exact br_t z bad
            · exact br_f (ix_0 (by decide) z) (br_t z bad)
          · refine br_f (by rw [ej]; exact nI_pos (by omega)) (br_f (by rw [ej]; exact nI_ge (b := 10) hj (by decide)) ?_)
            unfold wX_code_96
            refine br_f (by decide) ?_
            rcases nb v3 with z | ⟨i, hi, ei⟩
            · have bad : wpY_code (fun r' v' => r' = 0 ∧ i_Rel (k + 5) (nI C, nI (m + 1), nI R, x_isBuilt, x_faultPlace, x_namedClasses, x_madeClasses, x_namedMethods, x_liveMethods, x_depth, x_stepCount, nI o, nI t, x_isInterfaceClass, x_chainOf, x_interfacesOf, x_ancestorsOf, x_homeOf, x_formOf, x_nameOf, x_lengthOf, x_opOf, x_classOf, x_numberOf, x_sourceMethod, x_sourceLine, x_callLine, x_ruleKind, x_ruleClasses, x_ruleNames, x_newNumber, x_familyOf, x_sightOf, x_frameRow, x_frameLine, x_frameHeld, x_outInts, x_traceMethod, x_traceLine) v') (nI C, nI (m + 1), nI R, x_faultPlace, y_named, y_made, y_namedMethods, y_live, x_isBuilt, nI t, x_stepCount, nI o, y_ending, x_isInterfaceClass, y_isAbstract, y_parent, x_ancestorsOf, x_interfacesOf, y_many, x_homeOf, y_name, y_length, y_op, y_first, y_second, x_ruleKind, x_ruleClasses, x_ruleNames, y_inlined, y_number, y_newName, y_family, y_vMethod, y_vLine, y_vHeld, x_outInts) (nI 3) v2 v3 := by
                refine Y1 (in6 (br_f (by decide) (br_f (by decide) ?_)))
                rw [ej]
                refine inB hj ?_
                unfold wY_code_63
                refine br_f (by decide) (br_t rfl ?_)
                unfold wY_code_73
                exact inA z ⟨rfl, II⟩
              rcases z with z | z
              · exact br_t z bad
              · exact br_f (ix_0 (by decide) z) (br_f (ix_l z) bad)
            · refine br_f (by rw [ei]; exact nI_pos (by omega)) (br_t (by rw [ei]; exact nI_lt (b := 10) hi (by decide)) ?_)
              refine fin (cc := v2) (nn := v3) (Or.inr ⟨by decide, rfl⟩) (Or.inr (Or.inr ⟨by decide, rfl⟩)) (fun _ => ⟨j, hj, ej, ej⟩) (fun z => absurd z (by omega)) (fun _ => ⟨i, hi, ei, ei⟩) (fun z => absurd z (by omega)) (fun z => absurd z (by omega)) (fun h => Y1 (in6 (br_f (by decide) (br_f (by decide) ?_))))
              rw [ej, ei] at h ⊢
              refine inB hj ?_
              unfold wY_code_63
              refine br_f (by decide) (br_t rfl ?_)
              unfold wY_code_73
              exact inB hi h
        · subst w
          refine br_f (by decide) (br_f (by decide) ?_)
          unfold wX_code_62
          refine br_f (by decide) (br_f (by decide) ?_)
          unfold wX_code_79
          refine br_f (by decide) ?_
          rcases nb v2 with z | ⟨j, hj, ej⟩
          · have bad := Y1 (P := fun r' v' => r' = 0 ∧ i_Rel (k + 5) (nI C, nI (m + 1), nI R, x_isBuilt, x_faultPlace, x_namedClasses, x_madeClasses, x_namedMethods, x_liveMethods, x_depth, x_stepCount, nI o, nI t, x_isInterfaceClass, x_chainOf, x_interfacesOf, x_ancestorsOf, x_homeOf, x_formOf, x_nameOf, x_lengthOf, x_opOf, x_classOf, x_numberOf, x_sourceMethod, x_sourceLine, x_callLine, x_ruleKind, x_ruleClasses, x_ruleNames, x_newNumber, x_familyOf, x_sightOf, x_frameRow, x_frameLine, x_frameHeld, x_outInts, x_traceMethod, x_traceLine) v') (in6 (br_f (by decide) (br_f (by decide) (inA z ⟨rfl, II⟩))))
            rcases z with z | z
            · exact br_t z bad
            · exact br_f (ix_0 (by decide) z) (br_t z bad)
          · refine br_f (by rw [ej]; exact nI_pos (by omega)) (br_f (by rw [ej]; exact nI_ge (b := 10) hj (by decide)) ?_)
            unfold wX_code_96
            refine br_t rfl (fin (cc := v2) (Or.inr ⟨by decide, rfl⟩) (Or.inl ⟨rfl, by decide, rfl⟩) (fun _ => ⟨j, hj, ej, ej⟩) (fun z => absurd z (by omega)) (fun z => absurd z (by omega)) (fun z => absurd z (by omega)) (fun _ => rfl) (fun h => Y1 (in6 (br_f (by decide) (br_f (by decide) ?_)))))
            rw [ej] at h ⊢
            refine inB hj ?_
            unfold wY_code_63
            exact br_f (by decide) (br_f (by decide) h)
        · subst w
          refine br_f (by decide) (br_t (by decide) ?_)
          unfold wX_code_61 wX_code_62
          refine br_f (by decide) (br_f (by decide) ?_)
          unfold wX_code_79
          refine br_t rfl ?_
          unfold wX_code_96
          refine br_t rfl (fin (Or.inl ⟨rfl, rfl⟩) (Or.inl ⟨rfl, by decide, rfl⟩) (fun z => absurd z (by omega)) (fun _ => rfl) (fun z => absurd z (by omega)) (fun z => absurd z (by omega)) (fun _ => rfl) (fun h => Y1 (in6 (br_f (by decide) (br_t (by decide) ?_)))))
          unfold wY_code_63
          exact br_f (by decide) (br_f (by decide) h)
    · exact br_f (by rw [a2]; decide) (Y0 ⟨fun z => absurd z a1, fun _ => ⟨rfl, II⟩⟩)
