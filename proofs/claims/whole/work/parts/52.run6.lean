/-! ===== running: one instruction that was inlined ===== -/
section
variable {x_classCount x_methodCount x_ruleCount x_isBuilt x_faultPlace x_namedClasses x_madeClasses x_namedMethods x_liveMethods x_depth x_stepCount x_outCount x_traceCount : Int32} {x_isInterfaceClass x_chainOf x_interfacesOf x_ancestorsOf x_homeOf x_formOf x_nameOf x_lengthOf x_opOf x_classOf x_numberOf x_sourceMethod x_sourceLine x_callLine x_ruleKind x_ruleClasses x_ruleNames x_newNumber x_familyOf x_sightOf x_frameRow x_frameLine x_frameHeld x_outInts x_traceMethod x_traceLine : Nat → Int32} {y_classes y_methods y_rules y_place y_named y_made y_namedMethods y_live y_built y_depth y_steps y_outs y_ending : Int32} {y_isInterface y_isAbstract y_parent y_ancestors y_own y_many y_home y_name y_length y_op y_first y_second y_ruleKind y_ruleClasses y_ruleNames y_inlined y_number y_newName y_family y_vMethod y_vLine y_vHeld y_put : Nat → Int32} {C M R w s o k : Nat} {inl fr fl fh vm vl vh oi : Nat → Int32} {P : Int32 → SX → Prop} {GB : (Int32 → SY → Prop) → Prop}
theorem xd_1 (T : tp_p C M R x_isInterfaceClass x_ancestorsOf x_interfacesOf x_chainOf y_parent y_many x_homeOf x_ruleKind x_ruleClasses x_ruleNames x_formOf x_nameOf x_lengthOf y_isAbstract y_name y_length x_opOf x_classOf x_numberOf x_sourceMethod x_sourceLine x_callLine y_op y_first y_second) (hw : w < 2) (sm : sm_p C M w inl y_length y_op y_first y_second x_formOf x_lengthOf x_opOf x_classOf x_numberOf x_sourceMethod x_sourceLine x_callLine y_inlined) (hl6 : ∀ m, m < M → y_length m = nI (hq_t (y_length m)) ∧ hq_t (y_length m) ≤ 6) {m x t j : Nat} (s1 : s1_p C M w inl y_length x_formOf fr fl fh vm vl vh k m x t j) (hos : o ≤ s) (s2 : s < 200)
    (g : ∀ ypost : Int32 → SY → Prop, (∃ n, wY_run_162 ypost (nI w) n (nI C) (nI M) y_rules y_place y_named y_made y_namedMethods y_live y_built (nI (k + 2)) (nI s) (nI o) (-1) x_isInterfaceClass y_isAbstract y_parent x_ancestorsOf x_interfacesOf y_many x_homeOf y_name y_length y_op y_first y_second x_ruleKind x_ruleClasses x_ruleNames y_inlined y_number y_newName y_family vm vl vh oi) → GB ypost)
    (KE : ∀ r : Int32, 0 ≤ r → ¬ r = -1 → (∀ ypost : Int32 → SY → Prop, ypost r (nI C, nI M, y_rules, y_place, y_named, y_made, y_namedMethods, y_live, y_built, nI (k + 2), nI (s + 1), nI o, r, x_isInterfaceClass, y_isAbstract, y_parent, x_ancestorsOf, x_interfacesOf, y_many, x_homeOf, y_name, y_length, y_op, y_first, y_second, x_ruleKind, x_ruleClasses, x_ruleNames, y_inlined, y_number, y_newName, y_family, vm, vl, vh, oi) → GB ypost) → P r (nI C, nI M, x_ruleCount, x_isBuilt, x_faultPlace, x_namedClasses, x_madeClasses, x_namedMethods, x_liveMethods, nI (k + 1), nI (s + 1), nI o, x_traceCount, x_isInterfaceClass, x_chainOf, x_interfacesOf, x_ancestorsOf, x_homeOf, x_formOf, x_nameOf, x_lengthOf, x_opOf, x_classOf, x_numberOf, x_sourceMethod, x_sourceLine, x_callLine, x_ruleKind, x_ruleClasses, x_ruleNames, x_newNumber, x_familyOf, x_sightOf, fr, fl, fh, oi, x_traceMethod, x_traceLine)) (KG0 : ∀ (d o' : Nat) (fr fl fh vm vl vh oi : Nat → Int32), s0_p C M w inl y_length x_formOf fr fl fh vm vl vh d → o' ≤ s + 1 → (∀ ypost : Int32 → SY → Prop, (∃ n, wY_run_162 ypost (nI w) n (nI C) (nI M) y_rules y_place y_named y_made y_namedMethods y_live y_built (nI d) (nI (s + 1)) (nI o') (-1) x_isInterfaceClass y_isAbstract y_parent x_ancestorsOf x_interfacesOf y_many x_homeOf y_name y_length y_op y_first y_second x_ruleKind x_ruleClasses x_ruleNames y_inlined y_number y_newName y_family vm vl vh oi) → GB ypost) → P (-1) (nI C, nI M, x_ruleCount, x_isBuilt, x_faultPlace, x_namedClasses, x_madeClasses, x_namedMethods, x_liveMethods, nI d, nI (s + 1), nI o', x_traceCount, x_isInterfaceClass, x_chainOf, x_interfacesOf, x_ancestorsOf, x_homeOf, x_formOf, x_nameOf, x_lengthOf, x_opOf, x_classOf, x_numberOf, x_sourceMethod, x_sourceLine, x_callLine, x_ruleKind, x_ruleClasses, x_ruleNames, x_newNumber, x_familyOf, x_sightOf, fr, fl, fh, oi, x_traceMethod, x_traceLine)) (KG1 : ∀ (d k m x t j o' : Nat) (fr fl fh vm vl vh oi : Nat → Int32), d = k + 1 → s1_p C M w inl y_length x_formOf fr fl fh vm vl vh k m x t j → o' ≤ s + 1 → (∀ ypost : Int32 → SY → Prop, (∃ n, wY_run_162 ypost (nI w) n (nI C) (nI M) y_rules y_place y_named y_made y_namedMethods y_live y_built (nI (k + 2)) (nI (s + 1)) (nI o') (-1) x_isInterfaceClass y_isAbstract y_parent x_ancestorsOf x_interfacesOf y_many x_homeOf y_name y_length y_op y_first y_second x_ruleKind x_ruleClasses x_ruleNames y_inlined y_number y_newName y_family vm vl vh oi) → GB ypost) → P (-1) (nI C, nI M, x_ruleCount, x_isBuilt, x_faultPlace, x_namedClasses, x_madeClasses, x_namedMethods, x_liveMethods, nI d, nI (s + 1), nI o', x_traceCount, x_isInterfaceClass, x_chainOf, x_interfacesOf, x_ancestorsOf, x_homeOf, x_formOf, x_nameOf, x_lengthOf, x_opOf, x_classOf, x_numberOf, x_sourceMethod, x_sourceLine, x_callLine, x_ruleKind, x_ruleClasses, x_ruleNames, x_newNumber, x_familyOf, x_sightOf, fr, fl, fh, oi, x_traceMethod, x_traceLine)) : wpX_doInstruction P (nI C, nI M, x_ruleCount, x_isBuilt, x_faultPlace, x_namedClasses, x_madeClasses, x_namedMethods, x_liveMethods, nI (k + 1), nI (s + 1), nI o, x_traceCount, x_isInterfaceClass, x_chainOf, x_interfacesOf, x_ancestorsOf, x_homeOf, x_formOf, x_nameOf, x_lengthOf, x_opOf, x_classOf, x_numberOf, x_sourceMethod, x_sourceLine, x_callLine, x_ruleKind, x_ruleClasses, x_ruleNames, x_newNumber, x_familyOf, x_sightOf, fr, fl, fh, oi, x_traceMethod, x_traceLine) (nI w) := by
  have h30 := T.2.2.1.1
  have h10 := T.1.1
  obtain ⟨k8, lo, mM, mF, xl, et, tM, jl, f1, f2, f3, f4, f5, f6, f7, f8, f9⟩ := s1
  have l6 := hl6 m mM
  have lt := hl6 t tM
  have p24 := po_24 sm.1 h30 mM l6.2
  have nn : ¬ inl (6 * m + x) < 0 := by rw [et]; exact nI_pos (by omega)
  have ht : hq_t (inl (6 * m + x)) = t := by rw [et]; exact hq_e (by omega)
  have gr := gy_t xl nn
  rw [ht] at gr
  have px1 := po_s inl y_length m x
  rw [gr] at px1
  have mo : po_n inl y_length m (x + 1) ≤ po_n inl y_length m (hq_t (y_length m)) := ps_mo (gr := gy_n inl y_length m) xl
  obtain ⟨q0, q06, ey0, hc0, _, _, _, _, ci⟩ := sm.2.2 m x mM mF xl
  obtain ⟨w1, yin, _, _, t', tM', et', l3, lines⟩ := ci nn
  have tt : t' = t := by rw [et] at et'; exact ((nI_eq (by omega) (by omega)).mp et').symm
  subst tt
  obtain ⟨q, q05, ey, cO, cN, cS, cU, cA⟩ := lines j jl
  have ee : 24 * (30 * w + m) + po_n inl y_length m x + 1 + j = 24 * (30 * w + m) + (po_n inl y_length m x + 1 + j) := by omega
  rw [ee] at cO cN cS cU cA
  have ik : vp_in (nI k) 8 := vp_in_nI (by omega) (by decide)
  have ik1 : vp_in (nI (k + 1)) 8 := vp_in_nI (by omega) (by decide)
  have ij : vp_in (nI (6 * t' + j)) 180 := vp_in_nI (by omega) (by decide)
  have ip : vp_in (nI (24 * (30 * w + m) + (po_n inl y_length m x + 1 + j))) 1440 := vp_in_nI (by omega) (by decide)
  have io : vp_in (nI o) 200 := vp_in_nI (by omega) (by decide)
  have yst : ∀ (ypost : Int32 → SY → Prop) (n : Nat), (∀ Q : SY → Prop, (∀ {y_classes y_methods y_rules y_place y_named y_made y_namedMethods y_live y_built y_depth y_steps y_outs y_ending : Int32} {y_isInterface y_isAbstract y_parent y_ancestors y_own y_many y_home y_name y_length y_op y_first y_second y_ruleKind y_ruleClasses y_ruleNames y_inlined y_number y_newName y_family y_vMethod y_vLine y_vHeld y_put : Nat → Int32}, wY_run_162 ypost (nI w) n y_classes y_methods y_rules y_place y_named y_made y_namedMethods y_live y_built y_depth y_steps y_outs y_ending y_isInterface y_isAbstract y_parent y_ancestors y_own y_many y_home y_name y_length y_op y_first y_second y_ruleKind y_ruleClasses y_ruleNames y_inlined y_number y_newName y_family y_vMethod y_vLine y_vHeld y_put → Q (y_classes, y_methods, y_rules, y_place, y_named, y_made, y_namedMethods, y_live, y_built, y_depth, y_steps, y_outs, y_ending, y_isInterface, y_isAbstract, y_parent, y_ancestors, y_own, y_many, y_home, y_name, y_length, y_op, y_first, y_second, y_ruleKind, y_ruleClasses, y_ruleNames, y_inlined, y_number, y_newName, y_family, y_vMethod, y_vLine, y_vHeld, y_put)) → wpY_step Q (nI C, nI M, y_rules, y_place, y_named, y_made, y_namedMethods, y_live, y_built, nI (k + 1 + 1), nI (s + 1), nI o, -1, x_isInterfaceClass, y_isAbstract, y_parent, x_ancestorsOf, x_interfacesOf, y_many, x_homeOf, y_name, y_length, y_op, y_first, y_second, x_ruleKind, x_ruleClasses, x_ruleNames, y_inlined, y_number, y_newName, y_family, vm, vl, vh, oi) (nI w) (nI (k + 1)) (nI (6 * t' + j))) → GB ypost := fun yp n h =>
    g yp (y_step hw k8 f7 (by omega) f8 (by omega) (by rw [lt.1]; exact nI_lt jl (by omega)) s2 h)
  unfold wpX_doInstruction
  dsimp only
  refine nm_r (nI_pred k) ⟨ik, ik, ?_⟩
  rw [nI_c (show k < 10000 by omega), f1, f4, nI_a24]
  refine nm_e ⟨ip, ?_⟩
  rw [nI_c (show 24 * (30 * w + m) + (po_n inl y_length m x + 1 + j) < 10000 by omega)]
  rcases q05 with z | z
  · subst z
    refine nm_r cO (br_f (by decide) (br_f (by decide) (br_t rfl ⟨ip, io, nm_e (nm_r (nI_1 o) ?_)⟩)))
    rw [nI_c (show o < 10000 by omega), cN rfl]
    have out : ∀ ypost : Int32 → SY → Prop, (∃ n, wY_run_162 ypost (nI w) n (nI C) (nI M) y_rules y_place y_named y_made y_namedMethods y_live y_built (nI (k + 2)) (nI (s + 1)) (nI (o + 1)) (-1) x_isInterfaceClass y_isAbstract y_parent x_ancestorsOf x_interfacesOf y_many x_homeOf y_name y_length y_op y_first y_second x_ruleKind x_ruleClasses x_ruleNames y_inlined y_number y_newName y_family vm (upd vl (k + 1) (vl (k + 1) + 1)) vh (upd oi o (y_second (6 * t' + j)))) → GB ypost := fun yp ⟨n', hn⟩ =>
      yst yp n' (fun Q hQ => ys_b h10 k8 (by omega) ey (by omega) (fun a _ => by omega) f9 (fun _ _ _ a _ _ => by omega) (fun _ => by
        unfold wY_step_60
        rw [nI_c (show 6 * t' + j < 10000 by omega), nI_c (show k + 1 < 10000 by omega), nI_c (show o < 10000 by omega)]
        exact ⟨ij, nm_r ey (br_f (by decide) (br_f (by decide) (br_t rfl (nm_r (nI_1 o) ⟨ij, io, nm_e ⟨ik1, ik1, nm_e (hQ hn)⟩⟩))))⟩))
    unfold wX_doInstruction_218
    rw [nI_c (show k < 10000 by omega)]
    refine ⟨ik, ik, nm_e ?_⟩
    rcases Nat.lt_or_ge (j + 1) (hq_t (y_length t')) with z | z
    · refine KG1 (k + 1) k m x t' (j + 1) (o + 1) fr _ fh vm (upd vl (k + 1) (vl (k + 1) + 1)) vh _ rfl ⟨k8, ?_, mM, mF, xl, et, tM, z, f1, f2, ?_, ?_, f5, f6, f7, ?_, f9⟩ (by omega) out
      · exact lo_cg lo (Nat.le_refl _) (fun _ _ => rfl) (fun i hi => pk_un (by omega)) (fun _ _ => rfl) (fun _ _ => rfl) (fun i hi => pk_un (by omega)) (fun _ _ => rfl)
      · rw [pk_un (by omega)]; exact f3
      · rw [pk_us, f4, nI_1]; exact congrArg nI (by omega)
      · rw [pk_us, f8, nI_1]
    · refine KG0 (k + 1) (o + 1) fr _ fh vm (upd (upd vl (k + 1) (vl (k + 1) + 1)) k (vl k + 1)) vh _ ⟨by omega, ?_, fun k' hk' => ?_⟩ (by omega) (fun yp h => out yp ?_)
      · exact lo_cg lo (Nat.le_refl _) (fun _ _ => rfl) (fun i hi => pk_un (by omega)) (fun _ _ => rfl) (fun _ _ => rfl) (fun i hi => by rw [pk_un (by omega), pk_un (by omega)]) (fun _ _ => rfl)
      · have : k' = k := by omega
        subst this
        refine ⟨m, x + 1, ⟨mM, mF, f1, f2, ?_, ?_, f5, f6⟩, by omega⟩
        · rw [pk_us, f3, nI_1]
        · rw [pk_us, f4, nI_1]; exact congrArg nI (by omega)
      · refine y_pop hw (e := k + 1) (m := t') (by omega) f7 (by omega) (by rw [pk_us, f8, nI_1, lt.1]; exact nI_nlt z (by omega)) ?_
        rw [if_neg (by omega), Nat.add_sub_cancel, pk_un (show k ≠ k + 1 by omega)]
        exact h
  · subst z
    refine nm_r cO (br_f (by decide) (br_f (by decide) (br_f (by decide) (br_f (by decide) (br_f (by decide) (br_f (by decide) (br_f (by decide) (br_t rfl ?_))))))))
    refine KE 1 (by decide) (by decide) (fun yp hp => ?_)
    obtain ⟨n', hn⟩ := y_end (w := w) (by decide) hp
    refine yst yp n' (fun Q hQ => ys_b h10 k8 (by omega) ey (by omega) (fun _ a => by omega) f9 (fun _ _ _ _ a _ => by omega) (fun _ => ?_))
    unfold wY_step_60
    rw [nI_c (show 6 * t' + j < 10000 by omega)]
    exact ⟨ij, nm_r ey (br_f (by decide) (br_t (by decide) (hQ hn)))⟩
end
/-! ===== running: the steps ===== -/
section
variable {x_classCount x_methodCount x_ruleCount x_isBuilt x_faultPlace x_namedClasses x_madeClasses x_namedMethods x_liveMethods x_depth x_stepCount x_outCount x_traceCount : Int32} {x_isInterfaceClass x_chainOf x_interfacesOf x_ancestorsOf x_homeOf x_formOf x_nameOf x_lengthOf x_opOf x_classOf x_numberOf x_sourceMethod x_sourceLine x_callLine x_ruleKind x_ruleClasses x_ruleNames x_newNumber x_familyOf x_sightOf x_frameRow x_frameLine x_frameHeld x_outInts x_traceMethod x_traceLine : Nat → Int32} {y_classes y_methods y_rules y_place y_named y_made y_namedMethods y_live y_built y_depth y_steps y_outs y_ending : Int32} {y_isInterface y_isAbstract y_parent y_ancestors y_own y_many y_home y_name y_length y_op y_first y_second y_ruleKind y_ruleClasses y_ruleNames y_inlined y_number y_newName y_family y_vMethod y_vLine y_vHeld y_put : Nat → Int32} {C M R w : Nat} {inl : Nat → Int32} {GB : (Int32 → SY → Prop) → Prop}
theorem ef_v (hw : w < 2) (h30 : M ≤ 30) (hl6 : ∀ m, m < M → y_length m = nI (hq_t (y_length m)) ∧ hq_t (y_length m) ≤ 6) (sm : sm_p C M w inl y_length y_op y_first y_second x_formOf x_lengthOf x_opOf x_classOf x_numberOf x_sourceMethod x_sourceLine x_callLine y_inlined) {post : SX → Prop} {s o d e : Nat} {fr fl fh vm vl vh oi : Nat → Int32} (ss : ((e = d ∧ s0_p C M w inl y_length x_formOf fr fl fh vm vl vh d) ∨ ∃ k m x t j, d = k + 1 ∧ e = k + 2 ∧ s1_p C M w inl y_length x_formOf fr fl fh vm vl vh k m x t j)) (g : ∀ ypost : Int32 → SY → Prop, (∃ n, wY_run_162 ypost (nI w) n (nI C) (nI M) y_rules y_place y_named y_made y_namedMethods y_live y_built (nI e) (nI s) (nI o) (-1) x_isInterfaceClass y_isAbstract y_parent x_ancestorsOf x_interfacesOf y_many x_homeOf y_name y_length y_op y_first y_second x_ruleKind x_ruleClasses x_ruleNames y_inlined y_number y_newName y_family vm vl vh oi) → GB ypost)
    (K : ∀ d e fl vl, ((e = d ∧ s0_p C M w inl y_length x_formOf fr fl fh vm vl vh d ∧ ∀ k, k + 1 = d → ∃ m x, fo_q C M w inl y_length x_formOf fr fl fh vm vl vh k m x ∧ x < hq_t (y_length m)) ∨ ∃ k m x t j, d = k + 1 ∧ e = k + 2 ∧ s1_p C M w inl y_length x_formOf fr fl fh vm vl vh k m x t j) → (∀ ypost : Int32 → SY → Prop, (∃ n, wY_run_162 ypost (nI w) n (nI C) (nI M) y_rules y_place y_named y_made y_namedMethods y_live y_built (nI e) (nI s) (nI o) (-1) x_isInterfaceClass y_isAbstract y_parent x_ancestorsOf x_interfacesOf y_many x_homeOf y_name y_length y_op y_first y_second x_ruleKind x_ruleClasses x_ruleNames y_inlined y_number y_newName y_family vm vl vh oi) → GB ypost) → post (nI C, nI M, x_ruleCount, x_isBuilt, x_faultPlace, x_namedClasses, x_madeClasses, x_namedMethods, x_liveMethods, nI d, nI s, nI o, x_traceCount, x_isInterfaceClass, x_chainOf, x_interfacesOf, x_ancestorsOf, x_homeOf, x_formOf, x_nameOf, x_lengthOf, x_opOf, x_classOf, x_numberOf, x_sourceMethod, x_sourceLine, x_callLine, x_ruleKind, x_ruleClasses, x_ruleNames, x_newNumber, x_familyOf, x_sightOf, fr, fl, fh, oi, x_traceMethod, x_traceLine)) : wpX_endFinished post (nI C, nI M, x_ruleCount, x_isBuilt, x_faultPlace, x_namedClasses, x_madeClasses, x_namedMethods, x_liveMethods, nI d, nI s, nI o, x_traceCount, x_isInterfaceClass, x_chainOf, x_interfacesOf, x_ancestorsOf, x_homeOf, x_formOf, x_nameOf, x_lengthOf, x_opOf, x_classOf, x_numberOf, x_sourceMethod, x_sourceLine, x_callLine, x_ruleKind, x_ruleClasses, x_ruleNames, x_newNumber, x_familyOf, x_sightOf, fr, fl, fh, oi, x_traceMethod, x_traceLine) := by
  unfold wpX_endFinished
  rcases ss with ⟨rfl, s0⟩ | ⟨k, m, x, t, j, rfl, rfl, s1⟩
  · have d8 := s0.1
    exact ⟨e + 1, xe_f hw h30 hl6 sm (fun d fl vl a b c => K d d fl vl (Or.inl ⟨rfl, a, b⟩) c) e 0 (e + 1) fl vl (by omega) (by omega) s0 g⟩
  · have fin := K (k + 1) (k + 2) fl vl (Or.inr ⟨k, m, x, t, j, rfl, rfl, s1⟩) g
    obtain ⟨k8, lo, mM, mF, xl, et, tM, jl, f1, f2, f3, f4, f5, f6, f7, f8, f9⟩ := s1
    have l6 := hl6 m mM
    have p24 := po_24 sm.1 h30 mM l6.2
    have nn : ¬ inl (6 * m + x) < 0 := by rw [et]; exact nI_pos (by omega)
    have ht : hq_t (inl (6 * m + x)) = t := by rw [et]; exact hq_e (by omega)
    have gr := gy_t xl nn
    rw [ht] at gr
    have px1 := po_s inl y_length m x
    rw [gr] at px1
    have mo : po_n inl y_length m (x + 1) ≤ po_n inl y_length m (hq_t (y_length m)) := ps_mo (gr := gy_n inl y_length m) xl
    have ik : vp_in (nI k) 8 := vp_in_nI (by omega) (by decide)
    refine ⟨1, ?_⟩
    rw [wX_endFinished_2]
    refine br_f (by decide) (br_f (nI_nle (by omega) (by omega)) (nm_r (nI_pred k) ⟨ik, ik, ?_⟩))
    rw [nI_c (show k < 10000 by omega), f1, nI_c (show 30 * w + m < 10000 by omega), sm.2.1 m mM mF, f4]
    exact ⟨vp_in_nI (by omega) (by decide), br_f (nI_ge (by omega) (by omega)) fin⟩
theorem xs_l (T : tp_p C M R x_isInterfaceClass x_ancestorsOf x_interfacesOf x_chainOf y_parent y_many x_homeOf x_ruleKind x_ruleClasses x_ruleNames x_formOf x_nameOf x_lengthOf y_isAbstract y_name y_length x_opOf x_classOf x_numberOf x_sourceMethod x_sourceLine x_callLine y_op y_first y_second) (hw : w < 2) (sm : sm_p C M w inl y_length y_op y_first y_second x_formOf x_lengthOf x_opOf x_classOf x_numberOf x_sourceMethod x_sourceLine x_callLine y_inlined) (HY : (∀ {Q : SY → Prop} {k s o : Nat} {vm vl vh oi : Nat → Int32} {m x h : Nat} {cc : Int32}, m < M → x_formOf (30 * w + m) = 2 → x < hq_t (y_length m) → inl (6 * m + x) < 0 → (y_op (6 * m + x) = 2 ∨ y_op (6 * m + x) = 3) → h < C → (cc = nI h ∨ (cc = -1 ∧ y_first (6 * m + x) = nI h)) → wY_call_87 Q (oI (ft_v M w x_ancestorsOf x_chainOf x_homeOf x_formOf x_nameOf (x_numberOf (24 * (30 * w + m) + po_n inl y_length m x)) h)) (nI C) (nI M) y_rules y_place y_named y_made y_namedMethods y_live y_built (nI (k + 1)) (nI (s + 1)) (nI o) (-1) x_isInterfaceClass y_isAbstract y_parent x_ancestorsOf x_interfacesOf y_many x_homeOf y_name y_length y_op y_first y_second x_ruleKind x_ruleClasses x_ruleNames y_inlined y_number y_newName y_family vm vl vh oi → wpY_call Q (nI C, nI M, y_rules, y_place, y_named, y_made, y_namedMethods, y_live, y_built, nI (k + 1), nI (s + 1), nI o, -1, x_isInterfaceClass, y_isAbstract, y_parent, x_ancestorsOf, x_interfacesOf, y_many, x_homeOf, y_name, y_length, y_op, y_first, y_second, x_ruleKind, x_ruleClasses, x_ruleNames, y_inlined, y_number, y_newName, y_family, vm, vl, vh, oi) (nI w) (nI (6 * m + x)) cc)) (hl6 : ∀ m, m < M → y_length m = nI (hq_t (y_length m)) ∧ hq_t (y_length m) ≤ 6) {post : Int32 → SX → Prop}
    (K : ∀ (r : Int32) (s o d e : Nat) (fr fl fh vm vl vh oi : Nat → Int32), ((e = d ∧ s0_p C M w inl y_length x_formOf fr fl fh vm vl vh d ∧ ∀ k, k + 1 = d → ∃ m x, fo_q C M w inl y_length x_formOf fr fl fh vm vl vh k m x ∧ x < hq_t (y_length m)) ∨ ∃ k m x t j, d = k + 1 ∧ e = k + 2 ∧ s1_p C M w inl y_length x_formOf fr fl fh vm vl vh k m x t j) → o ≤ 200 → (∀ ypost : Int32 → SY → Prop, ypost r (nI C, nI M, y_rules, y_place, y_named, y_made, y_namedMethods, y_live, y_built, nI e, nI s, nI o, r, x_isInterfaceClass, y_isAbstract, y_parent, x_ancestorsOf, x_interfacesOf, y_many, x_homeOf, y_name, y_length, y_op, y_first, y_second, x_ruleKind, x_ruleClasses, x_ruleNames, y_inlined, y_number, y_newName, y_family, vm, vl, vh, oi) → GB ypost) → post r (nI C, nI M, x_ruleCount, x_isBuilt, x_faultPlace, x_namedClasses, x_madeClasses, x_namedMethods, x_liveMethods, nI d, nI s, nI o, x_traceCount, x_isInterfaceClass, x_chainOf, x_interfacesOf, x_ancestorsOf, x_homeOf, x_formOf, x_nameOf, x_lengthOf, x_opOf, x_classOf, x_numberOf, x_sourceMethod, x_sourceLine, x_callLine, x_ruleKind, x_ruleClasses, x_ruleNames, x_newNumber, x_familyOf, x_sightOf, fr, fl, fh, oi, x_traceMethod, x_traceLine)) :
    ∀ (q s f o d e : Nat) (fr fl fh vm vl vh oi : Nat → Int32), s + q = 200 → q < f → o ≤ s → ((e = d ∧ s0_p C M w inl y_length x_formOf fr fl fh vm vl vh d) ∨ ∃ k m x t j, d = k + 1 ∧ e = k + 2 ∧ s1_p C M w inl y_length x_formOf fr fl fh vm vl vh k m x t j) → (∀ ypost : Int32 → SY → Prop, (∃ n, wY_run_162 ypost (nI w) n (nI C) (nI M) y_rules y_place y_named y_made y_namedMethods y_live y_built (nI e) (nI s) (nI o) (-1) x_isInterfaceClass y_isAbstract y_parent x_ancestorsOf x_interfacesOf y_many x_homeOf y_name y_length y_op y_first y_second x_ruleKind x_ruleClasses x_ruleNames y_inlined y_number y_newName y_family vm vl vh oi) → GB ypost) → wX_doSteps_2 post (nI w) f (nI s) (nI C) (nI M) x_ruleCount x_isBuilt x_faultPlace x_namedClasses x_madeClasses x_namedMethods x_liveMethods (nI d) (nI s) (nI o) x_traceCount x_isInterfaceClass x_chainOf x_interfacesOf x_ancestorsOf x_homeOf x_formOf x_nameOf x_lengthOf x_opOf x_classOf x_numberOf x_sourceMethod x_sourceLine x_callLine x_ruleKind x_ruleClasses x_ruleNames x_newNumber x_familyOf x_sightOf fr fl fh oi x_traceMethod x_traceLine := by
  have h30 := T.2.2.1.1
  intro q
  induction q with
  | zero =>
    intro s f o d e fr fl fh vm vl vh oi es hf hos ss g
    obtain ⟨f, rfl⟩ : ∃ q, f = q + 1 := ⟨f - 1, by omega⟩
    have es : s = 200 := by omega
    rw [wX_doSteps_2]
    refine br_t (nI_le (a := 200) (by omega) (by omega)) (ef_v hw h30 hl6 sm ss g (fun d e fl vl tq g => ?_))
    dsimp only
    rcases Nat.eq_zero_or_pos d with z | z
    · subst z
      refine br_t rfl (K 0 s o 0 e fr fl fh vm vl vh oi tq (by omega) (fun yp hp => g yp ?_))
      rcases tq with ⟨rfl, _⟩ | ⟨k, _, _, _, _, h, _⟩
      · exact y_done hw hp
      · omega
    · have d9 : d < 100 := by
        rcases tq with ⟨_, a, _⟩ | ⟨k, _, _, _, _, h, _, a⟩
        · have := a.1; omega
        · have := a.1; omega
      refine br_f (nI_ne0 z (by omega)) (K 5 s o d e fr fl fh vm vl vh oi tq (by omega) (fun yp hp => g yp ?_))
      rcases tq with ⟨rfl, s0, un⟩ | ⟨k, m, x, t, j, rfl, rfl, s1⟩
      · obtain ⟨k, rfl⟩ : ∃ k, e = k + 1 := ⟨e - 1, by omega⟩
        obtain ⟨m, x, fq, xl⟩ := un k rfl
        have l6 := hl6 m fq.1
        have := s0.1
        exact y_long hw (by omega) fq.2.2.2.1 (by have := fq.1; omega) (by rw [fq.2.2.2.2.1, l6.1]; exact nI_lt xl (by omega)) es hp
      · obtain ⟨k8, lo, mM, mF, xl, et, tM, jl, f1, f2, f3, f4, f5, f6, f7, f8, f9⟩ := s1
        have lt := hl6 t tM
        exact y_long hw k8 f7 (by omega) (by rw [f8, lt.1]; exact nI_lt jl (by omega)) es hp
  | succ q ih =>
    intro s f o d e fr fl fh vm vl vh oi es hf hos ss g
    obtain ⟨f, rfl⟩ : ∃ q, f = q + 1 := ⟨f - 1, by omega⟩
    rw [wX_doSteps_2]
    refine br_f (nI_ge (b := 200) (by omega) (by decide)) (ef_v hw h30 hl6 sm ss g (fun d e fl vl tq g => ?_))
    dsimp only
    rcases Nat.eq_zero_or_pos d with z | z
    · subst z
      refine br_t rfl (K 0 s o 0 e fr fl fh vm vl vh oi tq (by omega) (fun yp hp => g yp ?_))
      rcases tq with ⟨rfl, _⟩ | ⟨k, _, _, _, _, h, _⟩
      · exact y_done hw hp
      · omega
    · rcases tq with ⟨rfl, s0, un⟩ | ⟨k, m, x, t, j, rfl, rfl, s1⟩
      · obtain ⟨k, rfl⟩ : ∃ k, e = k + 1 := ⟨e - 1, by omega⟩
        obtain ⟨m, x, fq, xl⟩ := un k rfl
        have k8 := s0.1
        refine br_f (nI_ne0 z (by omega)) (nm_r (nI_1 s) ?_)
        refine xd_0 T hw sm HY hl6 fq xl (by omega) s0.2.1 hos (by omega) g (fun r h0 hn hp => br_f hn (K r (s + 1) o (k + 1) (k + 1) fr fl fh vm vl vh oi (Or.inl ⟨rfl, s0, un⟩) (by omega) hp))
          (fun d o' fr fl fh vm vl vh oi s0 ho' g => br_t rfl (nm_r (nI_1 s) (ih (s + 1) f o' d d fr fl fh vm vl vh oi (by omega) (by omega) ho' (Or.inl ⟨rfl, s0⟩) g)))
          (fun d k m x t j o' fr fl fh vm vl vh oi ed s1 ho' g => br_t rfl (nm_r (nI_1 s) (ih (s + 1) f o' d (k + 2) fr fl fh vm vl vh oi (by omega) (by omega) ho' (Or.inr ⟨k, m, x, t, j, ed, rfl, s1⟩) g)))
      · have k8 := s1.1
        refine br_f (nI_ne0 z (by omega)) (nm_r (nI_1 s) ?_)
        refine xd_1 T hw sm hl6 s1 hos (by omega) g (fun r h0 hn hp => br_f hn (K r (s + 1) o (k + 1) (k + 2) fr fl fh vm vl vh oi (Or.inr ⟨k, m, x, t, j, rfl, rfl, s1⟩) (by omega) hp))
          (fun d o' fr fl fh vm vl vh oi s0 ho' g => br_t rfl (nm_r (nI_1 s) (ih (s + 1) f o' d d fr fl fh vm vl vh oi (by omega) (by omega) ho' (Or.inl ⟨rfl, s0⟩) g)))
          (fun d k m x t j o' fr fl fh vm vl vh oi ed s1 ho' g => br_t rfl (nm_r (nI_1 s) (ih (s + 1) f o' d (k + 2) fr fl fh vm vl vh oi (by omega) (by omega) ho' (Or.inr ⟨k, m, x, t, j, ed, rfl, s1⟩) g)))
end
