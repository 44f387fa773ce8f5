/-! ===== running: one instruction, no frame entered ===== -/
section
variable {x_classCount x_methodCount x_ruleCount x_isBuilt x_faultPlace x_namedClasses x_madeClasses x_namedMethods x_liveMethods x_depth x_stepCount x_outCount x_traceCount : Int32} {x_isInterfaceClass x_chainOf x_interfacesOf x_ancestorsOf x_homeOf x_formOf x_nameOf x_lengthOf x_opOf x_classOf x_numberOf x_sourceMethod x_sourceLine x_callLine x_ruleKind x_ruleClasses x_ruleNames x_newNumber x_familyOf x_sightOf x_frameRow x_frameLine x_frameHeld x_outInts x_traceMethod x_traceLine : Nat → Int32} {y_classes y_methods y_rules y_place y_named y_made y_namedMethods y_live y_built y_depth y_steps y_outs y_ending : Int32} {y_isInterface y_isAbstract y_parent y_ancestors y_own y_many y_home y_name y_length y_op y_first y_second y_ruleKind y_ruleClasses y_ruleNames y_inlined y_number y_newName y_family y_vMethod y_vLine y_vHeld y_put : Nat → Int32} {C M R w s o k : Nat} {inl fr fl fh vm vl vh oi : Nat → Int32} {P : Int32 → SX → Prop} {GB : (Int32 → SY → Prop) → Prop}
theorem xd_0 (T : tp_p C M R x_isInterfaceClass x_ancestorsOf x_interfacesOf x_chainOf y_parent y_many x_homeOf x_ruleKind x_ruleClasses x_ruleNames x_formOf x_nameOf x_lengthOf y_isAbstract y_name y_length x_opOf x_classOf x_numberOf x_sourceMethod x_sourceLine x_callLine y_op y_first y_second) (hw : w < 2) (sm : sm_p C M w inl y_length y_op y_first y_second x_formOf x_lengthOf x_opOf x_classOf x_numberOf x_sourceMethod x_sourceLine x_callLine y_inlined) (HY : (∀ {Q : SY → Prop} {k s o : Nat} {vm vl vh oi : Nat → Int32} {m x h : Nat} {cc : Int32}, m < M → x_formOf (30 * w + m) = 2 → x < hq_t (y_length m) → inl (6 * m + x) < 0 → (y_op (6 * m + x) = 2 ∨ y_op (6 * m + x) = 3) → h < C → (cc = nI h ∨ (cc = -1 ∧ y_first (6 * m + x) = nI h)) → wY_call_87 Q (oI (ft_v M w x_ancestorsOf x_chainOf x_homeOf x_formOf x_nameOf (x_numberOf (24 * (30 * w + m) + po_n inl y_length m x)) h)) (nI C) (nI M) y_rules y_place y_named y_made y_namedMethods y_live y_built (nI (k + 1)) (nI (s + 1)) (nI o) (-1) x_isInterfaceClass y_isAbstract y_parent x_ancestorsOf x_interfacesOf y_many x_homeOf y_name y_length y_op y_first y_second x_ruleKind x_ruleClasses x_ruleNames y_inlined y_number y_newName y_family vm vl vh oi → wpY_call Q (nI C, nI M, y_rules, y_place, y_named, y_made, y_namedMethods, y_live, y_built, nI (k + 1), nI (s + 1), nI o, -1, x_isInterfaceClass, y_isAbstract, y_parent, x_ancestorsOf, x_interfacesOf, y_many, x_homeOf, y_name, y_length, y_op, y_first, y_second, x_ruleKind, x_ruleClasses, x_ruleNames, y_inlined, y_number, y_newName, y_family, vm, vl, vh, oi) (nI w) (nI (6 * m + x)) cc)) (hl6 : ∀ m, m < M → y_length m = nI (hq_t (y_length m)) ∧ hq_t (y_length m) ≤ 6) {m x : Nat} (fq : fo_q C M w inl y_length x_formOf fr fl fh vm vl vh k m x) (xl : x < hq_t (y_length m)) (k8 : k < 8) (lo : lo_q C M w inl y_length x_formOf fr fl fh vm vl vh (k + 1)) (hos : o ≤ s) (s2 : s < 200)
    (g : ∀ ypost : Int32 → SY → Prop, (∃ n, wY_run_162 ypost (nI w) n (nI C) (nI M) y_rules y_place y_named y_made y_namedMethods y_live y_built (nI (k + 1)) (nI s) (nI o) (-1) x_isInterfaceClass y_isAbstract y_parent x_ancestorsOf x_interfacesOf y_many x_homeOf y_name y_length y_op y_first y_second x_ruleKind x_ruleClasses x_ruleNames y_inlined y_number y_newName y_family vm vl vh oi) → GB ypost)
    (KE : ∀ r : Int32, 0 ≤ r → ¬ r = -1 → (∀ ypost : Int32 → SY → Prop, ypost r (nI C, nI M, y_rules, y_place, y_named, y_made, y_namedMethods, y_live, y_built, nI (k + 1), nI (s + 1), nI o, r, x_isInterfaceClass, y_isAbstract, y_parent, x_ancestorsOf, x_interfacesOf, y_many, x_homeOf, y_name, y_length, y_op, y_first, y_second, x_ruleKind, x_ruleClasses, x_ruleNames, y_inlined, y_number, y_newName, y_family, vm, vl, vh, oi) → GB ypost) → P r (nI C, nI M, x_ruleCount, x_isBuilt, x_faultPlace, x_namedClasses, x_madeClasses, x_namedMethods, x_liveMethods, nI (k + 1), nI (s + 1), nI o, x_traceCount, x_isInterfaceClass, x_chainOf, x_interfacesOf, x_ancestorsOf, x_homeOf, x_formOf, x_nameOf, x_lengthOf, x_opOf, x_classOf, x_numberOf, x_sourceMethod, x_sourceLine, x_callLine, x_ruleKind, x_ruleClasses, x_ruleNames, x_newNumber, x_familyOf, x_sightOf, fr, fl, fh, oi, x_traceMethod, x_traceLine)) (KG0 : ∀ (d o' : Nat) (fr fl fh vm vl vh oi : Nat → Int32), s0_p C M w inl y_length x_formOf fr fl fh vm vl vh d → o' ≤ s + 1 → (∀ ypost : Int32 → SY → Prop, (∃ n, wY_run_162 ypost (nI w) n (nI C) (nI M) y_rules y_place y_named y_made y_namedMethods y_live y_built (nI d) (nI (s + 1)) (nI o') (-1) x_isInterfaceClass y_isAbstract y_parent x_ancestorsOf x_interfacesOf y_many x_homeOf y_name y_length y_op y_first y_second x_ruleKind x_ruleClasses x_ruleNames y_inlined y_number y_newName y_family vm vl vh oi) → GB ypost) → P (-1) (nI C, nI M, x_ruleCount, x_isBuilt, x_faultPlace, x_namedClasses, x_madeClasses, x_namedMethods, x_liveMethods, nI d, nI (s + 1), nI o', x_traceCount, x_isInterfaceClass, x_chainOf, x_interfacesOf, x_ancestorsOf, x_homeOf, x_formOf, x_nameOf, x_lengthOf, x_opOf, x_classOf, x_numberOf, x_sourceMethod, x_sourceLine, x_callLine, x_ruleKind, x_ruleClasses, x_ruleNames, x_newNumber, x_familyOf, x_sightOf, fr, fl, fh, oi, x_traceMethod, x_traceLine)) (KG1 : ∀ (d k m x t j o' : Nat) (fr fl fh vm vl vh oi : Nat → Int32), d = k + 1 → s1_p C M w inl y_length x_formOf fr fl fh vm vl vh k m x t j → o' ≤ s + 1 → (∀ ypost : Int32 → SY → Prop, (∃ n, wY_run_162 ypost (nI w) n (nI C) (nI M) y_rules y_place y_named y_made y_namedMethods y_live y_built (nI (k + 2)) (nI (s + 1)) (nI o') (-1) x_isInterfaceClass y_isAbstract y_parent x_ancestorsOf x_interfacesOf y_many x_homeOf y_name y_length y_op y_first y_second x_ruleKind x_ruleClasses x_ruleNames y_inlined y_number y_newName y_family vm vl vh oi) → GB ypost) → P (-1) (nI C, nI M, x_ruleCount, x_isBuilt, x_faultPlace, x_namedClasses, x_madeClasses, x_namedMethods, x_liveMethods, nI d, nI (s + 1), nI o', x_traceCount, x_isInterfaceClass, x_chainOf, x_interfacesOf, x_ancestorsOf, x_homeOf, x_formOf, x_nameOf, x_lengthOf, x_opOf, x_classOf, x_numberOf, x_sourceMethod, x_sourceLine, x_callLine, x_ruleKind, x_ruleClasses, x_ruleNames, x_newNumber, x_familyOf, x_sightOf, fr, fl, fh, oi, x_traceMethod, x_traceLine)) : wpX_doInstruction P (nI C, nI M, x_ruleCount, x_isBuilt, x_faultPlace, x_namedClasses, x_madeClasses, x_namedMethods, x_liveMethods, nI (k + 1), nI (s + 1), nI o, x_traceCount, x_isInterfaceClass, x_chainOf, x_interfacesOf, x_ancestorsOf, x_homeOf, x_formOf, x_nameOf, x_lengthOf, x_opOf, x_classOf, x_numberOf, x_sourceMethod, x_sourceLine, x_callLine, x_ruleKind, x_ruleClasses, x_ruleNames, x_newNumber, x_familyOf, x_sightOf, fr, fl, fh, oi, x_traceMethod, x_traceLine) (nI w) := by
  have h30 := T.2.2.1.1
  have h10 := T.1.1
  obtain ⟨mM, mF, f1, f2, f3, f4, f5, f6⟩ := fq
  have l6 := hl6 m mM
  have p24 := po_24 sm.1 h30 mM l6.2
  have plt := po_lt (inl := inl) (ylen := y_length) (m := m) xl
  obtain ⟨q, q6, ey, hc, cS, cU, cA, cn, ci⟩ := sm.2.2 m x mM mF xl
  have ik : vp_in (nI k) 8 := vp_in_nI (by omega) (by decide)
  have ij : vp_in (nI (6 * m + x)) 180 := vp_in_nI (by omega) (by decide)
  have ip : vp_in (nI (24 * (30 * w + m) + po_n inl y_length m x)) 1440 := vp_in_nI (by omega) (by decide)
  have io : vp_in (nI o) 200 := vp_in_nI (by omega) (by decide)
  have f6x : fh k = -1 ∨ ∃ h, h < C ∧ fh k = nI h := by rw [f5]; exact f6
  have yst : ∀ (ypost : Int32 → SY → Prop) (n : Nat), (∀ Q : SY → Prop, (∀ {y_classes y_methods y_rules y_place y_named y_made y_namedMethods y_live y_built y_depth y_steps y_outs y_ending : Int32} {y_isInterface y_isAbstract y_parent y_ancestors y_own y_many y_home y_name y_length y_op y_first y_second y_ruleKind y_ruleClasses y_ruleNames y_inlined y_number y_newName y_family y_vMethod y_vLine y_vHeld y_put : Nat → Int32}, wY_run_162 ypost (nI w) n y_classes y_methods y_rules y_place y_named y_made y_namedMethods y_live y_built y_depth y_steps y_outs y_ending y_isInterface y_isAbstract y_parent y_ancestors y_own y_many y_home y_name y_length y_op y_first y_second y_ruleKind y_ruleClasses y_ruleNames y_inlined y_number y_newName y_family y_vMethod y_vLine y_vHeld y_put → Q (y_classes, y_methods, y_rules, y_place, y_named, y_made, y_namedMethods, y_live, y_built, y_depth, y_steps, y_outs, y_ending, y_isInterface, y_isAbstract, y_parent, y_ancestors, y_own, y_many, y_home, y_name, y_length, y_op, y_first, y_second, y_ruleKind, y_ruleClasses, y_ruleNames, y_inlined, y_number, y_newName, y_family, y_vMethod, y_vLine, y_vHeld, y_put)) → wpY_step Q (nI C, nI M, y_rules, y_place, y_named, y_made, y_namedMethods, y_live, y_built, nI (k + 1), nI (s + 1), nI o, -1, x_isInterfaceClass, y_isAbstract, y_parent, x_ancestorsOf, x_interfacesOf, y_many, x_homeOf, y_name, y_length, y_op, y_first, y_second, x_ruleKind, x_ruleClasses, x_ruleNames, y_inlined, y_number, y_newName, y_family, vm, vl, vh, oi) (nI w) (nI k) (nI (6 * m + x))) → GB ypost := fun yp n h =>
    g yp (y_step hw k8 f2 (by omega) f3 (by omega) (by rw [l6.1]; exact nI_lt xl (by omega)) s2 h)
  have yend : ∀ r : Int32, 0 ≤ r → (∀ (ypost : Int32 → SY → Prop) (n : Nat), wY_run_162 ypost (nI w) n (nI C) (nI M) y_rules y_place y_named y_made y_namedMethods y_live y_built (nI (k + 1)) (nI (s + 1)) (nI o) r x_isInterfaceClass y_isAbstract y_parent x_ancestorsOf x_interfacesOf y_many x_homeOf y_name y_length y_op y_first y_second x_ruleKind x_ruleClasses x_ruleNames y_inlined y_number y_newName y_family vm vl vh oi → GB ypost) → ∀ ypost : Int32 → SY → Prop, ypost r (nI C, nI M, y_rules, y_place, y_named, y_made, y_namedMethods, y_live, y_built, nI (k + 1), nI (s + 1), nI o, r, x_isInterfaceClass, y_isAbstract, y_parent, x_ancestorsOf, x_interfacesOf, y_many, x_homeOf, y_name, y_length, y_op, y_first, y_second, x_ruleKind, x_ruleClasses, x_ruleNames, y_inlined, y_number, y_newName, y_family, vm, vl, vh, oi) → GB ypost := fun r hr h yp hp => by
    obtain ⟨n, hn⟩ := y_end (w := w) hr hp
    exact h yp n hn
  have adv : ∀ fl' fh' vm' vl' vh' x', (∀ j, j ≠ k → fl' j = fl j) → (∀ j, j ≠ k → fh' j = fh j) → (∀ j, j ≤ k → vm' j = vm j) → (∀ j, j < k → vl' j = vl j) → (∀ j, j < k → vh' j = vh j) → fl' k = nI (po_n inl y_length m x') → vl' k = nI x' → x' ≤ hq_t (y_length m) + 1 → fh' k = vh' k → (vh' k = -1 ∨ ∃ h, h < C ∧ vh' k = nI h) → s0_p C M w inl y_length x_formOf fr fl' fh' vm' vl' vh' (k + 1) := fun fl' fh' vm' vl' vh' x' a1 a2 a3 a4 a5 a6 a7 a8 a9 a10 =>
    ⟨by omega, lo_cg lo (Nat.le_refl _) (fun _ _ => rfl) (fun j hj => a1 j (by omega)) (fun j hj => a2 j (by omega)) (fun j hj => a3 j (by omega)) (fun j hj => a4 j (by omega)) (fun j hj => a5 j (by omega)), fun k' hk' => by
      have : k' = k := by omega
      subst this
      exact ⟨m, x', ⟨mM, mF, f1, by rw [a3 k' (Nat.le_refl _)]; exact f2, a7, a6, a9, a10⟩, a8⟩⟩
  unfold wpX_doInstruction
  dsimp only
  refine nm_r (nI_pred k) ⟨ik, ik, ?_⟩
  rw [nI_c (show k < 10000 by omega), f1, f4, nI_a24]
  refine nm_e ⟨ip, ?_⟩
  rw [nI_c (show 24 * (30 * w + m) + po_n inl y_length m x < 10000 by omega)]
  by_cases n : inl (6 * m + x) < 0
  · obtain ⟨c1, c2, c3⟩ := cn n
    have px1 : po_n inl y_length m (x + 1) = po_n inl y_length m x + 1 := by rw [po_s, gy_1 n]
    have go : ∀ {o' : Nat} {fh' vh' oi' : Nat → Int32}, o' ≤ s + 1 → (∀ j, j ≠ k → fh' j = fh j) → (∀ j, j < k → vh' j = vh j) → fh' k = vh' k → (vh' k = -1 ∨ ∃ h, h < C ∧ vh' k = nI h) →
        (∀ ypost : Int32 → SY → Prop, (∃ n, wY_run_162 ypost (nI w) n (nI C) (nI M) y_rules y_place y_named y_made y_namedMethods y_live y_built (nI (k + 1)) (nI (s + 1)) (nI o') (-1) x_isInterfaceClass y_isAbstract y_parent x_ancestorsOf x_interfacesOf y_many x_homeOf y_name y_length y_op y_first y_second x_ruleKind x_ruleClasses x_ruleNames y_inlined y_number y_newName y_family vm (upd vl k (vl k + 1)) vh' oi') → GB ypost) →
        wX_doInstruction_218 P (nI k) (nI C) (nI M) x_ruleCount x_isBuilt x_faultPlace x_namedClasses x_madeClasses x_namedMethods x_liveMethods (nI (k + 1)) (nI (s + 1)) (nI o') x_traceCount x_isInterfaceClass x_chainOf x_interfacesOf x_ancestorsOf x_homeOf x_formOf x_nameOf x_lengthOf x_opOf x_classOf x_numberOf x_sourceMethod x_sourceLine x_callLine x_ruleKind x_ruleClasses x_ruleNames x_newNumber x_familyOf x_sightOf fr fl fh' oi' x_traceMethod x_traceLine := fun b1 b2 b3 b4 b5 b6 => by
      unfold wX_doInstruction_218
      rw [nI_c (show k < 10000 by omega)]
      refine ⟨ik, ik, nm_e (KG0 (k + 1) _ fr _ _ vm _ _ _ (adv _ _ vm _ _ (x + 1) (fun j hj => pk_un hj) b2 (fun _ _ => rfl) (fun j hj => pk_un (by omega)) b3 ?_ ?_ (by omega) b4 b5) b1 b6)⟩
      · rw [pk_us, f4, nI_1, px1]
      · rw [pk_us, f3, nI_1]
    rcases (by omega : q = 0 ∨ q = 1 ∨ q = 2 ∨ q = 3 ∨ q = 4 ∨ q = 5) with z | z | z | z | z | z
    · subst z
      refine nm_r c1 (br_f (by decide) (br_f (by decide) (br_t rfl ⟨ip, io, nm_e (nm_r (nI_1 o) ?_)⟩)))
      rw [nI_c (show o < 10000 by omega), c3 rfl]
      refine go (by omega) (fun _ _ => rfl) (fun _ _ => rfl) f5 f6 (fun yp ⟨n', hn⟩ => yst yp n' (fun Q hQ => ys_b h10 k8 (by omega) ey q6 hc f6 (fun _ _ _ a _ _ => by omega) (fun _ => ?_)))
      unfold wY_step_60
      rw [nI_c (show 6 * m + x < 10000 by omega), nI_c (show k < 10000 by omega), nI_c (show o < 10000 by omega)]
      exact ⟨ij, nm_r ey (br_f (by decide) (br_f (by decide) (br_t rfl (nm_r (nI_1 o) ⟨ij, io, nm_e ⟨ik, ik, nm_e (hQ hn)⟩⟩))))⟩
    · subst z
      obtain ⟨c, cC, ec⟩ := hc (by omega) (by omega)
      refine nm_r c1 (br_f (by decide) (br_f (by decide) (br_f (by decide) (br_t rfl ⟨ip, ik, nm_e ?_⟩))))
      rw [c2 (by omega) (by omega)]
      have fin : ∀ {ypost : Int32 → SY → Prop} {n' : Nat} {Q : SY → Prop} {x5 z0 : Int32}, (∀ {y_classes y_methods y_rules y_place y_named y_made y_namedMethods y_live y_built y_depth y_steps y_outs y_ending : Int32} {y_isInterface y_isAbstract y_parent y_ancestors y_own y_many y_home y_name y_length y_op y_first y_second y_ruleKind y_ruleClasses y_ruleNames y_inlined y_number y_newName y_family y_vMethod y_vLine y_vHeld y_put : Nat → Int32}, wY_run_162 ypost (nI w) n' y_classes y_methods y_rules y_place y_named y_made y_namedMethods y_live y_built y_depth y_steps y_outs y_ending y_isInterface y_isAbstract y_parent y_ancestors y_own y_many y_home y_name y_length y_op y_first y_second y_ruleKind y_ruleClasses y_ruleNames y_inlined y_number y_newName y_family y_vMethod y_vLine y_vHeld y_put → Q (y_classes, y_methods, y_rules, y_place, y_named, y_made, y_namedMethods, y_live, y_built, y_depth, y_steps, y_outs, y_ending, y_isInterface, y_isAbstract, y_parent, y_ancestors, y_own, y_many, y_home, y_name, y_length, y_op, y_first, y_second, y_ruleKind, y_ruleClasses, y_ruleNames, y_inlined, y_number, y_newName, y_family, y_vMethod, y_vLine, y_vHeld, y_put)) → wY_run_162 ypost (nI w) n' (nI C) (nI M) y_rules y_place y_named y_made y_namedMethods y_live y_built (nI (k + 1)) (nI (s + 1)) (nI o) (-1) x_isInterfaceClass y_isAbstract y_parent x_ancestorsOf x_interfacesOf y_many x_homeOf y_name y_length y_op y_first y_second x_ruleKind x_ruleClasses x_ruleNames y_inlined y_number y_newName y_family vm (upd vl k (vl k + 1)) (upd vh k (y_first (6 * m + x))) oi →
          wY_step_60 Q (nI w) (nI k) (nI (6 * m + x)) (y_first (6 * m + x)) x5 z0 (nI C) (nI M) y_rules y_place y_named y_made y_namedMethods y_live y_built (nI (k + 1)) (nI (s + 1)) (nI o) (-1) x_isInterfaceClass y_isAbstract y_parent x_ancestorsOf x_interfacesOf y_many x_homeOf y_name y_length y_op y_first y_second x_ruleKind x_ruleClasses x_ruleNames y_inlined y_number y_newName y_family vm vl vh oi := fun hQ hn => by
        unfold wY_step_60
        rw [nI_c (show 6 * m + x < 10000 by omega), nI_c (show k < 10000 by omega)]
        exact ⟨ij, nm_r ey (br_f (by decide) (br_f (by decide) (br_f (by decide) (br_t rfl ⟨ik, nm_e ⟨ik, ik, nm_e (hQ hn)⟩⟩))))⟩
      refine go (by omega) (fun j hj => pk_un hj) (fun j hj => pk_un (by omega)) ?_ ?_ (fun yp ⟨n', hn⟩ => yst yp n' (fun Q hQ => ys_b h10 k8 (by omega) ey q6 hc f6 (fun _ _ _ _ _ _ => fin hQ hn) (fun _ => fin hQ hn)))
      · rw [pk_us, pk_us]
      · rw [pk_us]; exact Or.inr ⟨c, cC, ec⟩
    · subst z
      obtain ⟨c, cC, ec⟩ := hc (by omega) (by omega)
      have hce : hq_t (y_first (6 * m + x)) = c := by rw [ec]; exact hq_e (by omega)
      refine nm_r c1 (br_f (by decide) (br_f (by decide) (br_f (by decide) (br_f (by decide) (br_t rfl ⟨ip, ip, ?_⟩)))))
      rw [c2 (by omega) (by omega), ec]
      unfold wpX_doCall
      dsimp only
      refine xi_b h10 k8 cC f6x (fun h hC eh b => ?_) (fun nf => ?_)
      · rw [nI_pred, nI_c (show k < 10000 by omega), eh]
        have ehy : vh k = nI h := by rw [← f5]; exact eh
        have yc : ∀ (ypost : Int32 → SY → Prop) (n' : Nat), (∀ Q : SY → Prop, (∀ {y_classes y_methods y_rules y_place y_named y_made y_namedMethods y_live y_built y_depth y_steps y_outs y_ending : Int32} {y_isInterface y_isAbstract y_parent y_ancestors y_own y_many y_home y_name y_length y_op y_first y_second y_ruleKind y_ruleClasses y_ruleNames y_inlined y_number y_newName y_family y_vMethod y_vLine y_vHeld y_put : Nat → Int32}, wY_run_162 ypost (nI w) n' y_classes y_methods y_rules y_place y_named y_made y_namedMethods y_live y_built y_depth y_steps y_outs y_ending y_isInterface y_isAbstract y_parent y_ancestors y_own y_many y_home y_name y_length y_op y_first y_second y_ruleKind y_ruleClasses y_ruleNames y_inlined y_number y_newName y_family y_vMethod y_vLine y_vHeld y_put → Q (y_classes, y_methods, y_rules, y_place, y_named, y_made, y_namedMethods, y_live, y_built, y_depth, y_steps, y_outs, y_ending, y_isInterface, y_isAbstract, y_parent, y_ancestors, y_own, y_many, y_home, y_name, y_length, y_op, y_first, y_second, y_ruleKind, y_ruleClasses, y_ruleNames, y_inlined, y_number, y_newName, y_family, y_vMethod, y_vLine, y_vHeld, y_put)) → wY_call_87 Q (oI (ft_v M w x_ancestorsOf x_chainOf x_homeOf x_formOf x_nameOf (x_numberOf (24 * (30 * w + m) + po_n inl y_length m x)) h)) (nI C) (nI M) y_rules y_place y_named y_made y_namedMethods y_live y_built (nI (k + 1)) (nI (s + 1)) (nI o) (-1) x_isInterfaceClass y_isAbstract y_parent x_ancestorsOf x_interfacesOf y_many x_homeOf y_name y_length y_op y_first y_second x_ruleKind x_ruleClasses x_ruleNames y_inlined y_number y_newName y_family vm vl vh oi) → GB ypost := fun yp n' hh => yst yp n' (fun Q hQ => ys_b h10 k8 (by omega) ey q6 hc f6 (fun h' hC' eh' _ _ b' => by
            have : h' = h := by
              rw [ehy] at eh'
              exact ((nI_eq (by omega) (by omega)).mp eh').symm
            subst this
            unfold wY_step_60
            rw [nI_c (show 6 * m + x < 10000 by omega)]
            refine ⟨ij, nm_r ey (br_f (by decide) (br_f (by decide) (br_f (by decide) (br_f (by decide) (br_t rfl (br_1 ?_))))))⟩
            exact HY mM mF xl n (by rw [ey]; exact Or.inl rfl) hC (Or.inl rfl) (hh _ (fun q => hQ q))) (fun nf => absurd ⟨h, hC, ehy, by omega, by omega, by rw [hce]; exact b⟩ nf))
        refine ⟨ik, ca_x T hw k8 hC (fun fn => ?_) (fun g' gM gF ft => ⟨fun z8 => ?_, fun z8 => ?_⟩)⟩
        · refine KE 3 (by decide) (by decide) (yend 3 (by decide) (fun yp n' hn => yc yp n' (fun Q hQ => ca_y k8 (ft_M T hC) (fun _ => hQ hn) (fun g e _ => ?_) (fun g e _ => ?_))))
          · rw [fn] at e; exact absurd e (by simp)
          · rw [fn] at e; exact absurd e (by simp)
        · refine KE 4 (by decide) (by decide) (yend 4 (by decide) (fun yp n' hn => yc yp n' (fun Q hQ => ca_y k8 (ft_M T hC) (fun e => ?_) (fun _ _ _ => hQ hn) (fun _ _ z => by omega))))
          rw [ft] at e; exact absurd e (by simp)
        · refine KG0 (k + 2) o (upd fr (k + 1) (nI (30 * w + g'))) (upd fl (k + 1) 0) (upd fh (k + 1) (fh k)) (upd vm (k + 1) (nI g')) (upd vl (k + 1) 0) (upd vh (k + 1) (vh k)) oi ⟨by omega, ?_, fun k' hk' => ?_⟩ (by omega) (fun yp ⟨n', hn⟩ => yc yp n' (fun Q hQ => ca_y k8 (ft_M T hC) (fun e => ?_) (fun _ _ z => by omega) (fun g'' e _ => ?_)))
          · intro k' hk'
            rcases Nat.lt_or_ge k' k with y | y
            · obtain ⟨m2, x2, fq2, r2⟩ := lo k' (by omega)
              exact ⟨m2, x2, fo_cg fq2 (pk_un (by omega)) (pk_un (by omega)) (pk_un (by omega)) (pk_un (by omega)) (pk_un (by omega)) (pk_un (by omega)), r2⟩
            · have : k' = k := by omega
              subst this
              exact ⟨m, x, fo_cg ⟨mM, mF, f1, f2, f3, f4, f5, f6⟩ (pk_un (by omega)) (pk_un (by omega)) (pk_un (by omega)) (pk_un (by omega)) (pk_un (by omega)) (pk_un (by omega)), xl, n⟩
          · have : k' = k + 1 := by omega
            subst this
            refine ⟨g', 0, ⟨gM, gF, pk_us, pk_us, pk_us, pk_us, ?_, ?_⟩, by omega⟩
            · rw [pk_us, pk_us]; exact f5
            · rw [pk_us]; exact f6
          · rw [ft] at e; exact absurd e (by simp)
          · rw [ft] at e
            have : g' = g'' := by simpa using e
            subst this; exact hQ hn
      · refine KE 2 (by decide) (by decide) (yend 2 (by decide) (fun yp n' hn => yst yp n' (fun Q hQ => ys_b h10 k8 (by omega) ey q6 hc f6 (fun h hC eh _ _ b => absurd ⟨h, hC, by rw [f5]; exact eh, by rw [← hce]; exact b⟩ nf) (fun _ => ?_))))
        unfold wY_step_60
        rw [nI_c (show 6 * m + x < 10000 by omega)]
        exact ⟨ij, nm_r ey (br_f (by decide) (br_f (by decide) (br_f (by decide) (br_f (by decide) (br_t rfl (br_0 (hQ hn)))))))⟩
    · subst z
      obtain ⟨c, cC, ec⟩ := hc (by omega) (by omega)
      refine nm_r c1 (br_f (by decide) (br_f (by decide) (br_f (by decide) (br_f (by decide) (br_f (by decide) (br_t rfl ⟨ip, ip, ?_⟩))))))
      rw [c2 (by omega) (by omega), ec]
      have yc : ∀ (ypost : Int32 → SY → Prop) (n' : Nat), (∀ Q : SY → Prop, (∀ {y_classes y_methods y_rules y_place y_named y_made y_namedMethods y_live y_built y_depth y_steps y_outs y_ending : Int32} {y_isInterface y_isAbstract y_parent y_ancestors y_own y_many y_home y_name y_length y_op y_first y_second y_ruleKind y_ruleClasses y_ruleNames y_inlined y_number y_newName y_family y_vMethod y_vLine y_vHeld y_put : Nat → Int32}, wY_run_162 ypost (nI w) n' y_classes y_methods y_rules y_place y_named y_made y_namedMethods y_live y_built y_depth y_steps y_outs y_ending y_isInterface y_isAbstract y_parent y_ancestors y_own y_many y_home y_name y_length y_op y_first y_second y_ruleKind y_ruleClasses y_ruleNames y_inlined y_number y_newName y_family y_vMethod y_vLine y_vHeld y_put → Q (y_classes, y_methods, y_rules, y_place, y_named, y_made, y_namedMethods, y_live, y_built, y_depth, y_steps, y_outs, y_ending, y_isInterface, y_isAbstract, y_parent, y_ancestors, y_own, y_many, y_home, y_name, y_length, y_op, y_first, y_second, y_ruleKind, y_ruleClasses, y_ruleNames, y_inlined, y_number, y_newName, y_family, y_vMethod, y_vLine, y_vHeld, y_put)) → wY_call_87 Q (oI (ft_v M w x_ancestorsOf x_chainOf x_homeOf x_formOf x_nameOf (x_numberOf (24 * (30 * w + m) + po_n inl y_length m x)) c)) (nI C) (nI M) y_rules y_place y_named y_made y_namedMethods y_live y_built (nI (k + 1)) (nI (s + 1)) (nI o) (-1) x_isInterfaceClass y_isAbstract y_parent x_ancestorsOf x_interfacesOf y_many x_homeOf y_name y_length y_op y_first y_second x_ruleKind x_ruleClasses x_ruleNames y_inlined y_number y_newName y_family vm vl vh oi) → GB ypost := fun yp n' hh => yst yp n' (fun Q hQ => by
        have st : ∀ x5 z0, wY_step_60 Q (nI w) (nI k) (nI (6 * m + x)) (y_first (6 * m + x)) x5 z0 (nI C) (nI M) y_rules y_place y_named y_made y_namedMethods y_live y_built (nI (k + 1)) (nI (s + 1)) (nI o) (-1) x_isInterfaceClass y_isAbstract y_parent x_ancestorsOf x_interfacesOf y_many x_homeOf y_name y_length y_op y_first y_second x_ruleKind x_ruleClasses x_ruleNames y_inlined y_number y_newName y_family vm vl vh oi := fun x5 z0 => by
          unfold wY_step_60
          rw [nI_c (show 6 * m + x < 10000 by omega)]
          refine ⟨ij, nm_r ey (br_f (by decide) (br_f (by decide) (br_f (by decide) (br_f (by decide) (br_f (by decide) (br_t rfl ?_))))))⟩
          exact HY mM mF xl n (by rw [ey]; exact Or.inr rfl) cC (Or.inr ⟨rfl, ec⟩) (hh _ (fun q => hQ q))
        exact ys_b h10 k8 (by omega) ey q6 hc f6 (fun _ _ _ _ _ _ => st _ _) (fun _ => st _ _))
      refine ca_x T hw k8 cC (fun fn => ?_) (fun g' gM gF ft => ⟨fun z8 => ?_, fun z8 => ?_⟩)
      · refine KE 3 (by decide) (by decide) (yend 3 (by decide) (fun yp n' hn => yc yp n' (fun Q hQ => ca_y k8 (ft_M T cC) (fun _ => hQ hn) (fun g e _ => ?_) (fun g e _ => ?_))))
        · rw [fn] at e; exact absurd e (by simp)
        · rw [fn] at e; exact absurd e (by simp)
      · refine KE 4 (by decide) (by decide) (yend 4 (by decide) (fun yp n' hn => yc yp n' (fun Q hQ => ca_y k8 (ft_M T cC) (fun e => ?_) (fun _ _ _ => hQ hn) (fun _ _ z => by omega))))
        rw [ft] at e; exact absurd e (by simp)
      · refine KG0 (k + 2) o (upd fr (k + 1) (nI (30 * w + g'))) (upd fl (k + 1) 0) (upd fh (k + 1) (fh k)) (upd vm (k + 1) (nI g')) (upd vl (k + 1) 0) (upd vh (k + 1) (vh k)) oi ⟨by omega, ?_, fun k' hk' => ?_⟩ (by omega) (fun yp ⟨n', hn⟩ => yc yp n' (fun Q hQ => ca_y k8 (ft_M T cC) (fun e => ?_) (fun _ _ z => by omega) (fun g'' e _ => ?_)))
        · intro k' hk'
          rcases Nat.lt_or_ge k' k with y | y
          · obtain ⟨m2, x2, fq2, r2⟩ := lo k' (by omega)
            exact ⟨m2, x2, fo_cg fq2 (pk_un (by omega)) (pk_un (by omega)) (pk_un (by omega)) (pk_un (by omega)) (pk_un (by omega)) (pk_un (by omega)), r2⟩
          · have : k' = k := by omega
            subst this
            exact ⟨m, x, fo_cg ⟨mM, mF, f1, f2, f3, f4, f5, f6⟩ (pk_un (by omega)) (pk_un (by omega)) (pk_un (by omega)) (pk_un (by omega)) (pk_un (by omega)) (pk_un (by omega)), xl, n⟩
        · have : k' = k + 1 := by omega
          subst this
          refine ⟨g', 0, ⟨gM, gF, pk_us, pk_us, pk_us, pk_us, ?_, ?_⟩, by omega⟩
          · rw [pk_us, pk_us]; exact f5
          · rw [pk_us]; exact f6
        · rw [ft] at e; exact absurd e (by simp)
        · rw [ft] at e
          have : g' = g'' := by simpa using e
          subst this; exact hQ hn
    · subst z
      obtain ⟨c, cC, ec⟩ := hc (by omega) (by omega)
      have hce : hq_t (y_first (6 * m + x)) = c := by rw [ec]; exact hq_e (by omega)
      refine nm_r c1 (br_f (by decide) (br_f (by decide) (br_f (by decide) (br_f (by decide) (br_f (by decide) (br_f (by decide) (br_t rfl ⟨ip, ?_⟩)))))))
      rw [c2 (by omega) (by omega), ec]
      refine xi_b h10 k8 cC f6x (fun h hC eh b => ?_) (fun nf => ?_)
      · have ehy : vh k = nI h := by rw [← f5]; exact eh
        refine go (by omega) (fun _ _ => rfl) (fun _ _ => rfl) f5 f6 (fun yp ⟨n', hn⟩ => yst yp n' (fun Q hQ => ys_b h10 k8 (by omega) ey q6 hc f6 (fun h' hC' eh' _ _ b' => ?_) (fun nf => absurd ⟨h, hC, ehy, by omega, by omega, by rw [hce]; exact b⟩ nf)))
        unfold wY_step_60
        rw [nI_c (show 6 * m + x < 10000 by omega), nI_c (show k < 10000 by omega)]
        exact ⟨ij, nm_r ey (br_f (by decide) (br_f (by decide) (br_f (by decide) (br_f (by decide) (br_f (by decide) (br_f (by decide) (br_t rfl ⟨ik, br_1 ⟨ik, nm_e (hQ hn)⟩⟩)))))))⟩
      · refine xn_v sm h30 hl6 hw k8 mM mF f1 f4 xl n (fun fl' a1 a2 => ?_)
        dsimp only
        unfold wX_doInstruction_218
        rw [nI_c (show k < 10000 by omega)]
        refine ⟨ik, ik, nm_e (KG0 (k + 1) o fr _ fh vm (upd vl k (vl k + 2)) vh oi (adv _ fh vm _ vh (x + 2) (fun j hj => by rw [pk_un hj]; exact a1 j hj) (fun _ _ => rfl) (fun _ _ => rfl) (fun j hj => pk_un (by omega)) (fun _ _ => rfl) ?_ ?_ (by omega) f5 f6) (by omega) (fun yp ⟨n', hn⟩ => yst yp n' (fun Q hQ => ys_b h10 k8 (by omega) ey q6 hc f6 (fun h hC eh _ _ b => absurd ⟨h, hC, by rw [f5]; exact eh, by rw [← hce]; exact b⟩ nf) (fun _ => ?_))))⟩
        · rw [pk_us]; exact a2
        · rw [pk_us, f3]; exact nI_add x 2
        · unfold wY_step_60
          rw [nI_c (show 6 * m + x < 10000 by omega), nI_c (show k < 10000 by omega)]
          exact ⟨ij, nm_r ey (br_f (by decide) (br_f (by decide) (br_f (by decide) (br_f (by decide) (br_f (by decide) (br_f (by decide) (br_t rfl ⟨ik, br_0 ⟨ik, nm_e (hQ hn)⟩⟩)))))))⟩
    · subst z
      refine nm_r c1 (br_f (by decide) (br_f (by decide) (br_f (by decide) (br_f (by decide) (br_f (by decide) (br_f (by decide) (br_f (by decide) (br_t rfl ?_))))))))
      refine KE 1 (by decide) (by decide) (yend 1 (by decide) (fun yp n' hn => yst yp n' (fun Q hQ => ys_b h10 k8 (by omega) ey q6 hc f6 (fun _ _ _ _ a _ => by omega) (fun _ => ?_))))
      unfold wY_step_60
      rw [nI_c (show 6 * m + x < 10000 by omega)]
      exact ⟨ij, nm_r ey (br_f (by decide) (br_t (by decide) (hQ hn)))⟩
  · obtain ⟨w1, yin, cO, cP, t, tM, et, l3, lines⟩ := ci n
    have ht : hq_t (inl (6 * m + x)) = t := by rw [et]; exact hq_e (by omega)
    have gr := gy_t xl n
    rw [ht] at gr
    have px1 := po_s inl y_length m x
    rw [gr] at px1
    have lt1 := (hl6 t tM).1
    have enter : ∀ {Q : SY → Prop} {cc : Int32}, wY_call_87 Q (oI (some t)) (nI C) (nI M) y_rules y_place y_named y_made y_namedMethods y_live y_built (nI (k + 1)) (nI (s + 1)) (nI o) (-1) x_isInterfaceClass y_isAbstract y_parent x_ancestorsOf x_interfacesOf y_many x_homeOf y_name y_length y_op y_first y_second x_ruleKind x_ruleClasses x_ruleNames y_inlined y_number y_newName y_family vm vl vh oi → wpY_call Q (nI C, nI M, y_rules, y_place, y_named, y_made, y_namedMethods, y_live, y_built, nI (k + 1), nI (s + 1), nI o, -1, x_isInterfaceClass, y_isAbstract, y_parent, x_ancestorsOf, x_interfacesOf, y_many, x_homeOf, y_name, y_length, y_op, y_first, y_second, x_ruleKind, x_ruleClasses, x_ruleNames, y_inlined, y_number, y_newName, y_family, vm, vl, vh, oi) (nI w) (nI (6 * m + x)) cc := fun {Q} {cc} h => by
      have w0 : ¬ nI w = 0 := by rw [w1]; decide
      have c14 : ∀ v, wY_call_14 Q (nI w) (nI (6 * m + x)) v (nI C) (nI M) y_rules y_place y_named y_made y_namedMethods y_live y_built (nI (k + 1)) (nI (s + 1)) (nI o) (-1) x_isInterfaceClass y_isAbstract y_parent x_ancestorsOf x_interfacesOf y_many x_homeOf y_name y_length y_op y_first y_second x_ruleKind x_ruleClasses x_ruleNames y_inlined y_number y_newName y_family vm vl vh oi := fun v => by
        unfold wY_call_14
        refine br_f w0 ⟨ij, ?_⟩
        rw [nI_c (show 6 * m + x < 10000 by omega), yin, et]
        unfold wY_call_30
        refine ⟨ij, nm_e (br_f w0 (br_t (nI_pos' (by omega)) ?_))⟩
        unfold wY_call_71
        exact br_t (nI_pos' (by omega)) h
      unfold wpY_call
      dsimp only
      exact br_c (fun _ => c14 _) (fun _ => ⟨ij, c14 _⟩)
    have e205 : (∀ (ypost : Int32 → SY → Prop) (n' : Nat), (∀ Q : SY → Prop, (∀ {y_classes y_methods y_rules y_place y_named y_made y_namedMethods y_live y_built y_depth y_steps y_outs y_ending : Int32} {y_isInterface y_isAbstract y_parent y_ancestors y_own y_many y_home y_name y_length y_op y_first y_second y_ruleKind y_ruleClasses y_ruleNames y_inlined y_number y_newName y_family y_vMethod y_vLine y_vHeld y_put : Nat → Int32}, wY_run_162 ypost (nI w) n' y_classes y_methods y_rules y_place y_named y_made y_namedMethods y_live y_built y_depth y_steps y_outs y_ending y_isInterface y_isAbstract y_parent y_ancestors y_own y_many y_home y_name y_length y_op y_first y_second y_ruleKind y_ruleClasses y_ruleNames y_inlined y_number y_newName y_family y_vMethod y_vLine y_vHeld y_put → Q (y_classes, y_methods, y_rules, y_place, y_named, y_made, y_namedMethods, y_live, y_built, y_depth, y_steps, y_outs, y_ending, y_isInterface, y_isAbstract, y_parent, y_ancestors, y_own, y_many, y_home, y_name, y_length, y_op, y_first, y_second, y_ruleKind, y_ruleClasses, y_ruleNames, y_inlined, y_number, y_newName, y_family, y_vMethod, y_vLine, y_vHeld, y_put)) → wY_call_87 Q (oI (some t)) (nI C) (nI M) y_rules y_place y_named y_made y_namedMethods y_live y_built (nI (k + 1)) (nI (s + 1)) (nI o) (-1) x_isInterfaceClass y_isAbstract y_parent x_ancestorsOf x_interfacesOf y_many x_homeOf y_name y_length y_op y_first y_second x_ruleKind x_ruleClasses x_ruleNames y_inlined y_number y_newName y_family vm vl vh oi) → GB ypost) → wX_doInstruction_205 P (nI k) (nI C) (nI M) x_ruleCount x_isBuilt x_faultPlace x_namedClasses x_madeClasses x_namedMethods x_liveMethods (nI (k + 1)) (nI (s + 1)) (nI o) x_traceCount x_isInterfaceClass x_chainOf x_interfacesOf x_ancestorsOf x_homeOf x_formOf x_nameOf x_lengthOf x_opOf x_classOf x_numberOf x_sourceMethod x_sourceLine x_callLine x_ruleKind x_ruleClasses x_ruleNames x_newNumber x_familyOf x_sightOf fr fl fh oi x_traceMethod x_traceLine := fun yc => by
      unfold wX_doInstruction_205
      have hft : ∀ g, some t = some g → g < 30 := fun g e => by
        have : t = g := by simpa using e
        omega
      refine pk_eq (k + 1) 8 (fun z8 => KE 4 (by decide) (by decide) (yend 4 (by decide) (fun yp n' hn => yc yp n' (fun Q hQ => ca_y k8 hft (fun e => absurd e (by simp)) (fun _ _ _ => hQ hn) (fun _ _ z => by omega))))) (fun z8 => ?_)
      have psh : ∀ ypost : Int32 → SY → Prop, (∃ n, wY_run_162 ypost (nI w) n (nI C) (nI M) y_rules y_place y_named y_made y_namedMethods y_live y_built (nI (k + 2)) (nI (s + 1)) (nI o) (-1) x_isInterfaceClass y_isAbstract y_parent x_ancestorsOf x_interfacesOf y_many x_homeOf y_name y_length y_op y_first y_second x_ruleKind x_ruleClasses x_ruleNames y_inlined y_number y_newName y_family (upd vm (k + 1) (nI t)) (upd vl (k + 1) 0) (upd vh (k + 1) (vh k)) oi) → GB ypost := fun yp ⟨n', hn⟩ =>
        yc yp n' (fun Q hQ => ca_y k8 hft (fun e => absurd e (by simp)) (fun _ _ z => by omega) (fun g e _ => by
          have : t = g := by simpa using e
          subst this; exact hQ hn))
      unfold wX_doInstruction_218
      rw [nI_c (show k < 10000 by omega)]
      refine ⟨ik, ik, nm_e ?_⟩
      rcases Nat.eq_zero_or_pos (hq_t (y_length t)) with l0 | l0
      · rw [l0] at px1
        refine KG0 (k + 1) o fr _ fh (upd vm (k + 1) (nI t)) (upd (upd vl (k + 1) 0) k (vl k + 1)) (upd vh (k + 1) (vh k)) oi (adv _ fh _ _ _ (x + 1) (fun j hj => pk_un hj) (fun _ _ => rfl) (fun j hj => pk_un (by omega)) (fun j hj => by rw [pk_un (by omega), pk_un (by omega)]) (fun j hj => pk_un (by omega)) ?_ ?_ (by omega) ?_ ?_) (by omega) (fun yp h => psh yp ?_)
        · rw [pk_us, f4, nI_1, px1]
        · rw [pk_us, f3, nI_1]
        · rw [pk_un (by omega)]; exact f5
        · rw [pk_un (by omega)]; exact f6
        · refine y_pop hw (e := k + 1) (m := t) (by omega) pk_us (by omega) (by rw [pk_us, lt1, l0]; decide) ?_
          rw [if_neg (by omega), Nat.add_sub_cancel, pk_un (show k ≠ k + 1 by omega)]
          exact h
      · refine KG1 (k + 1) k m x t 0 o fr _ fh (upd vm (k + 1) (nI t)) (upd vl (k + 1) 0) (upd vh (k + 1) (vh k)) oi rfl ⟨by omega, ?_, mM, mF, xl, et, tM, l0, f1, ?_, ?_, ?_, ?_, ?_, pk_us, pk_us, ?_⟩ (by omega) psh
        · exact lo_cg lo (Nat.le_refl _) (fun _ _ => rfl) (fun j hj => pk_un (by omega)) (fun _ _ => rfl) (fun j hj => pk_un (by omega)) (fun j hj => pk_un (by omega)) (fun j hj => pk_un (by omega))
        · rw [pk_un (by omega)]; exact f2
        · rw [pk_un (by omega)]; exact f3
        · rw [pk_us, f4, nI_1]
        · rw [pk_un (by omega)]; exact f5
        · rw [pk_un (by omega)]; exact f6
        · rw [pk_us]; exact f6
    refine nm_r cO (br_f (by decide) (br_f (by decide) (br_f (by decide) (br_f (by decide) (br_f (by decide) (br_f (by decide) (br_f (by decide) (br_f (by decide) (br_t rfl ⟨ip, ?_⟩)))))))))
    rcases cP with ⟨z, cp⟩ | ⟨z, cp⟩
    · subst z
      obtain ⟨c, cC, ec⟩ := hc (by omega) (by omega)
      have hce : hq_t (y_first (6 * m + x)) = c := by rw [ec]; exact hq_e (by omega)
      rw [cp, ec]
      refine br_f (oI_n (by omega)) ⟨ip, xi_b h10 k8 cC f6x (fun h hC eh b => e205 (fun yp n' hh => ?_)) (fun nf => ?_)⟩
      · have ehy : vh k = nI h := by rw [← f5]; exact eh
        refine yst yp n' (fun Q hQ => ys_b h10 k8 (by omega) ey q6 hc f6 (fun h' hC' eh' _ _ b' => ?_) (fun nf => absurd ⟨h, hC, ehy, by omega, by omega, by rw [hce]; exact b⟩ nf))
        unfold wY_step_60
        rw [nI_c (show 6 * m + x < 10000 by omega)]
        exact ⟨ij, nm_r ey (br_f (by decide) (br_f (by decide) (br_f (by decide) (br_f (by decide) (br_t rfl (br_1 (enter (hh _ (fun q => hQ q)))))))))⟩
      · refine KE 2 (by decide) (by decide) (yend 2 (by decide) (fun yp n' hn => yst yp n' (fun Q hQ => ys_b h10 k8 (by omega) ey q6 hc f6 (fun h hC eh _ _ b => absurd ⟨h, hC, by rw [f5]; exact eh, by rw [← hce]; exact b⟩ nf) (fun _ => ?_))))
        unfold wY_step_60
        rw [nI_c (show 6 * m + x < 10000 by omega)]
        exact ⟨ij, nm_r ey (br_f (by decide) (br_f (by decide) (br_f (by decide) (br_f (by decide) (br_t rfl (br_0 (hQ hn)))))))⟩
    · subst z
      rw [cp]
      refine br_t rfl (e205 (fun yp n' hh => yst yp n' (fun Q hQ => ?_)))
      have st : ∀ x5 z0, wY_step_60 Q (nI w) (nI k) (nI (6 * m + x)) (y_first (6 * m + x)) x5 z0 (nI C) (nI M) y_rules y_place y_named y_made y_namedMethods y_live y_built (nI (k + 1)) (nI (s + 1)) (nI o) (-1) x_isInterfaceClass y_isAbstract y_parent x_ancestorsOf x_interfacesOf y_many x_homeOf y_name y_length y_op y_first y_second x_ruleKind x_ruleClasses x_ruleNames y_inlined y_number y_newName y_family vm vl vh oi := fun x5 z0 => by
        unfold wY_step_60
        rw [nI_c (show 6 * m + x < 10000 by omega)]
        exact ⟨ij, nm_r ey (br_f (by decide) (br_f (by decide) (br_f (by decide) (br_f (by decide) (br_f (by decide) (br_t rfl (enter (hh _ (fun q => hQ q)))))))))⟩
      exact ys_b h10 k8 (by omega) ey q6 hc f6 (fun _ _ _ _ _ _ => st _ _) (fun _ => st _ _)
end
