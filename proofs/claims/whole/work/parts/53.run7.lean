/-! ===== the trace ===== -/
theorem ix_m {k : Nat} : nI k + (-1) = if k = 0 then -1 else nI (k - 1) := by
  rcases Nat.eq_zero_or_pos k with z | z
  · subst z; decide
  · obtain ⟨j, rfl⟩ : ∃ j, k = j + 1 := ⟨k - 1, by omega⟩
    rw [if_neg (by omega), pk_m1, Nat.add_sub_cancel]
section
variable {x_classCount x_methodCount x_ruleCount x_isBuilt x_faultPlace x_namedClasses x_madeClasses x_namedMethods x_liveMethods x_depth x_stepCount x_outCount x_traceCount : Int32} {x_isInterfaceClass x_chainOf x_interfacesOf x_ancestorsOf x_homeOf x_formOf x_nameOf x_lengthOf x_opOf x_classOf x_numberOf x_sourceMethod x_sourceLine x_callLine x_ruleKind x_ruleClasses x_ruleNames x_newNumber x_familyOf x_sightOf x_frameRow x_frameLine x_frameHeld x_outInts x_traceMethod x_traceLine : Nat → Int32} {y_classes y_methods y_rules y_place y_named y_made y_namedMethods y_live y_built y_depth y_steps y_outs y_ending : Int32} {y_isInterface y_isAbstract y_parent y_ancestors y_own y_many y_home y_name y_length y_op y_first y_second y_ruleKind y_ruleClasses y_ruleNames y_inlined y_number y_newName y_family y_vMethod y_vLine y_vHeld y_put : Nat → Int32} {C M w s o d e : Nat} {inl fr fl fh vm vl vh oi : Nat → Int32}
theorem rt_l (hw : w < 2) (h30 : M ≤ 30) (hl6 : ∀ m, m < M → y_length m = nI (hq_t (y_length m)) ∧ hq_t (y_length m) ≤ 6) (sm : sm_p C M w inl y_length y_op y_first y_second x_formOf x_lengthOf x_opOf x_classOf x_numberOf x_sourceMethod x_sourceLine x_callLine y_inlined) (e8 : e ≤ 8) {post : SX → Prop} (K : ∀ tm tl, tr_p e tm tl vm vl → post (nI C, nI M, x_ruleCount, x_isBuilt, x_faultPlace, x_namedClasses, x_madeClasses, x_namedMethods, x_liveMethods, nI d, nI s, nI o, nI e, x_isInterfaceClass, x_chainOf, x_interfacesOf, x_ancestorsOf, x_homeOf, x_formOf, x_nameOf, x_lengthOf, x_opOf, x_classOf, x_numberOf, x_sourceMethod, x_sourceLine, x_callLine, x_ruleKind, x_ruleClasses, x_ruleNames, x_newNumber, x_familyOf, x_sightOf, fr, fl, fh, oi, tm, tl)) :
    ∀ n c f tm tl, c + n = e → n < f → (∀ k, k < n → ∃ m x, fo_q C M w inl y_length x_formOf fr fl fh vm vl vh k m x ∧ x < hq_t (y_length m)) → (∀ i, i < c → tm i = vm (e - 1 - i) ∧ tl i = vl (e - 1 - i)) →
      wX_recordTrace_12 post f (if n = 0 then -1 else nI (n - 1)) (nI C) (nI M) x_ruleCount x_isBuilt x_faultPlace x_namedClasses x_madeClasses x_namedMethods x_liveMethods (nI d) (nI s) (nI o) (nI c) x_isInterfaceClass x_chainOf x_interfacesOf x_ancestorsOf x_homeOf x_formOf x_nameOf x_lengthOf x_opOf x_classOf x_numberOf x_sourceMethod x_sourceLine x_callLine x_ruleKind x_ruleClasses x_ruleNames x_newNumber x_familyOf x_sightOf fr fl fh oi tm tl := by
  intro n
  induction n with
  | zero =>
    intro c f tm tl en hf fq z
    obtain ⟨f, rfl⟩ : ∃ q, f = q + 1 := ⟨f - 1, by omega⟩
    have en : c = e := by omega
    subst en
    rw [if_pos rfl, wX_recordTrace_12]
    exact br_t (by decide) (K tm tl ⟨e8, z⟩)
  | succ k ih =>
    intro c f tm tl en hf fq z
    obtain ⟨f, rfl⟩ : ∃ q, f = q + 1 := ⟨f - 1, by omega⟩
    obtain ⟨m, x, ⟨mM, mF, f1, f2, f3, f4, f5, f6⟩, xl⟩ := fq k (by omega)
    have l6 := hl6 m mM
    have p24 := po_24 sm.1 h30 mM l6.2
    have plt := po_lt (inl := inl) (ylen := y_length) (m := m) xl
    obtain ⟨q, q6, ey, hc, cS, cU, cA, _⟩ := sm.2.2 m x mM mF xl
    have ik : vp_in (nI k) 8 := vp_in_nI (by omega) (by decide)
    have ic : vp_in (nI c) 8 := vp_in_nI (by omega) (by decide)
    have ip : vp_in (nI (24 * (30 * w + m) + po_n inl y_length m x)) 1440 := vp_in_nI (by omega) (by decide)
    rw [if_neg (by omega), Nat.add_sub_cancel, wX_recordTrace_12]
    refine br_f (nI_pos (by omega)) ⟨ik, ?_⟩
    rw [nI_c (show k < 10000 by omega)]
    refine nm_r f1 ⟨ik, nm_r (e' := nI (24 * (30 * w + m) + po_n inl y_length m x)) (by rw [f4, nI_a24]) ⟨ip, ip, ?_⟩⟩
    rw [nI_c (show 24 * (30 * w + m) + po_n inl y_length m x < 10000 by omega), cS, cU]
    unfold wpX_addTrace
    dsimp only
    refine br_f (nI_ge (b := 8) (by omega) (by decide)) ?_
    rw [nI_c (show c < 10000 by omega)]
    refine ⟨ic, nm_e ⟨ic, nm_e (nm_r (nI_1 c) ⟨ip, br_t cA (nm_r ix_m (ih (c + 1) f _ _ (by omega) (by omega) (fun k' hk' => fq k' (by omega)) (fun i hi => ?_)))⟩)⟩⟩
    by_cases w' : i = c
    · subst w'
      have ek : e - 1 - i = k := by omega
      rw [pk_us, pk_us, ek, f2, f3]
      exact ⟨rfl, rfl⟩
    · rw [pk_un w', pk_un w']; exact z i (by omega)
theorem xt_v (hw : w < 2) (h30 : M ≤ 30) (hl6 : ∀ m, m < M → y_length m = nI (hq_t (y_length m)) ∧ hq_t (y_length m) ≤ 6) (sm : sm_p C M w inl y_length y_op y_first y_second x_formOf x_lengthOf x_opOf x_classOf x_numberOf x_sourceMethod x_sourceLine x_callLine y_inlined) (tq : ((e = d ∧ s0_p C M w inl y_length x_formOf fr fl fh vm vl vh d ∧ ∀ k, k + 1 = d → ∃ m x, fo_q C M w inl y_length x_formOf fr fl fh vm vl vh k m x ∧ x < hq_t (y_length m)) ∨ ∃ k m x t j, d = k + 1 ∧ e = k + 2 ∧ s1_p C M w inl y_length x_formOf fr fl fh vm vl vh k m x t j)) {post : SX → Prop} (K : ∀ tm tl, e ≤ 8 → tr_p e tm tl vm vl → post (nI C, nI M, x_ruleCount, x_isBuilt, x_faultPlace, x_namedClasses, x_madeClasses, x_namedMethods, x_liveMethods, nI d, nI s, nI o, nI e, x_isInterfaceClass, x_chainOf, x_interfacesOf, x_ancestorsOf, x_homeOf, x_formOf, x_nameOf, x_lengthOf, x_opOf, x_classOf, x_numberOf, x_sourceMethod, x_sourceLine, x_callLine, x_ruleKind, x_ruleClasses, x_ruleNames, x_newNumber, x_familyOf, x_sightOf, fr, fl, fh, oi, tm, tl)) : wpX_recordTrace post (nI C, nI M, x_ruleCount, x_isBuilt, x_faultPlace, x_namedClasses, x_madeClasses, x_namedMethods, x_liveMethods, nI d, nI s, nI o, x_traceCount, x_isInterfaceClass, x_chainOf, x_interfacesOf, x_ancestorsOf, x_homeOf, x_formOf, x_nameOf, x_lengthOf, x_opOf, x_classOf, x_numberOf, x_sourceMethod, x_sourceLine, x_callLine, x_ruleKind, x_ruleClasses, x_ruleNames, x_newNumber, x_familyOf, x_sightOf, fr, fl, fh, oi, x_traceMethod, x_traceLine) := by
  unfold wpX_recordTrace
  dsimp only
  rcases tq with ⟨rfl, s0, un⟩ | ⟨k, m, x, t, j, rfl, rfl, s1⟩
  · have e8 := s0.1
    refine nm_r (e' := if e = 0 then -1 else nI (e - 1)) ?_ ⟨e + 1, ?_⟩
    · rcases Nat.eq_zero_or_pos e with z | z
      · subst z; decide
      · obtain ⟨j, rfl⟩ : ∃ j, e = j + 1 := ⟨e - 1, by omega⟩
        rw [if_neg (by omega), nI_pred, Nat.add_sub_cancel]
    · refine rt_l (vh := vh) hw h30 hl6 sm e8 (fun tm tl h => K tm tl e8 h) e 0 (e + 1) x_traceMethod x_traceLine (by omega) (by omega) (fun k hk => ?_) (fun i hi => by omega)
      rcases Nat.lt_or_ge (k + 1) e with z | z
      · obtain ⟨m, x, fq, xl, _⟩ := s0.2.1 k z
        exact ⟨m, x, fq, xl⟩
      · exact un k (by omega)
  · obtain ⟨k8, lo, mM, mF, xl, et, tM, jl, f1, f2, f3, f4, f5, f6, f7, f8, f9⟩ := s1
    have l6 := hl6 m mM
    have p24 := po_24 sm.1 h30 mM l6.2
    have nn : ¬ inl (6 * m + x) < 0 := by rw [et]; exact nI_pos (by omega)
    have ht : hq_t (inl (6 * m + x)) = t := by rw [et]; exact hq_e (by omega)
    have gr := gy_t xl nn
    rw [ht] at gr
    have px1 := po_s inl y_length m x
    rw [gr] at px1
    have mo : po_n inl y_length m (x + 1) ≤ po_n inl y_length m (hq_t (y_length m)) := ps_mo (gr := gy_n inl y_length m) xl
    obtain ⟨q0, q06, ey0, hc0, _, _, _, _, ci⟩ := sm.2.2 m x mM mF xl
    obtain ⟨w1, yin, _, _, t', tM', et', l3, lines⟩ := ci nn
    have tt : t' = t := by rw [et] at et'; exact ((nI_eq (by omega) (by omega)).mp et').symm
    subst tt
    obtain ⟨q, q05, ey, cO, cN, cS, cU, cA⟩ := lines j jl
    have ee : 24 * (30 * w + m) + po_n inl y_length m x + 1 + j = 24 * (30 * w + m) + (po_n inl y_length m x + 1 + j) := by omega
    rw [ee] at cO cN cS cU cA
    have ik : vp_in (nI k) 8 := vp_in_nI (by omega) (by decide)
    have ip : vp_in (nI (24 * (30 * w + m) + (po_n inl y_length m x + 1 + j))) 1440 := vp_in_nI (by omega) (by decide)
    refine nm_r (nI_pred k) ⟨k + 2, ?_⟩
    rw [wX_recordTrace_12]
    refine br_f (nI_pos (by omega)) ⟨ik, ?_⟩
    rw [nI_c (show k < 10000 by omega)]
    refine nm_r f1 ⟨ik, nm_r (e' := nI (24 * (30 * w + m) + (po_n inl y_length m x + 1 + j))) (by rw [f4, nI_a24]) ⟨ip, ip, ?_⟩⟩
    rw [nI_c (show 24 * (30 * w + m) + (po_n inl y_length m x + 1 + j) < 10000 by omega), cS, cU]
    unfold wpX_addTrace
    dsimp only
    refine br_f (by decide) ⟨vp_in_nI (n := 0) (by decide) (by decide), nm_e ⟨vp_in_nI (n := 0) (by decide) (by decide), nm_e (nm_e ⟨ip, br_f (by rw [cA]; exact oI_n (by omega)) ⟨by decide, ip, ?_⟩⟩)⟩⟩
    have rem : nI (30 * w + m) - nI (30 * w + m) / 30 * 30 = nI m := by
      have := pk_rem (a := 30 * w + m) (d := 30) (by omega) (by decide) (by decide)
      rw [show (30 * w + m) % 30 = m from by omega] at this
      exact this
    rw [rem, cA]
    refine br_f (by decide) ⟨vp_in_nI (n := 1) (by decide) (by decide), nm_e ⟨vp_in_nI (n := 1) (by decide) (by decide), nm_e (nm_e (nm_r ix_m ?_))⟩⟩
    refine rt_l (vh := vh) (e := k + 2) hw h30 hl6 sm (by omega) (fun tm tl h => K tm tl (by omega) h) k 2 (k + 1) _ _ (by omega) (by omega) (fun k' hk' => ?_) (fun i hi => ?_)
    · obtain ⟨m, x, fq, xl, _⟩ := lo k' (by omega)
      exact ⟨m, x, fq, xl⟩
    · rcases (by omega : i = 0 ∨ i = 1) with z | z
      · subst z
        exact ⟨f7.symm, f8.symm⟩
      · subst z
        exact ⟨f2.symm, f3.symm⟩
end
