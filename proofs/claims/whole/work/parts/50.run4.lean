/-! ===== running: one instruction ===== -/
section
variable {x_classCount x_methodCount x_ruleCount x_isBuilt x_faultPlace x_namedClasses x_madeClasses x_namedMethods x_liveMethods x_depth x_stepCount x_outCount x_traceCount : Int32} {x_isInterfaceClass x_chainOf x_interfacesOf x_ancestorsOf x_homeOf x_formOf x_nameOf x_lengthOf x_opOf x_classOf x_numberOf x_sourceMethod x_sourceLine x_callLine x_ruleKind x_ruleClasses x_ruleNames x_newNumber x_familyOf x_sightOf x_frameRow x_frameLine x_frameHeld x_outInts x_traceMethod x_traceLine : Nat → Int32} {y_classes y_methods y_rules y_place y_named y_made y_namedMethods y_live y_built y_depth y_steps y_outs y_ending : Int32} {y_isInterface y_isAbstract y_parent y_ancestors y_own y_many y_home y_name y_length y_op y_first y_second y_ruleKind y_ruleClasses y_ruleNames y_inlined y_number y_newName y_family y_vMethod y_vLine y_vHeld y_put : Nat → Int32} {C M R w s o k : Nat} {inl fr fl fh vm vl vh oi : Nat → Int32} {P : Int32 → SX → Prop} {GB : (Int32 → SY → Prop) → Prop}
theorem ft_M (T : tp_p C M R x_isInterfaceClass x_ancestorsOf x_interfacesOf x_chainOf y_parent y_many x_homeOf x_ruleKind x_ruleClasses x_ruleNames x_formOf x_nameOf x_lengthOf y_isAbstract y_name y_length x_opOf x_classOf x_numberOf x_sourceMethod x_sourceLine x_callLine y_op y_first y_second) {n : Int32} {h : Nat} (hC : h < C) : ∀ g, ft_v M w x_ancestorsOf x_chainOf x_homeOf x_formOf x_nameOf n h = some g → g < 30 := fun g e => by
  have h30 := T.2.2.1.1
  unfold ft_v at e
  cases e' : fd_v M x_ancestorsOf x_chainOf x_homeOf (fun m => decide (¬ x_formOf (30 * w + m) = 0) && decide (x_nameOf (30 * w + m) = n)) h with
  | none => rw [e'] at e; exact absurd e (by simp)
  | some g' =>
    rw [e'] at e
    have gM := (fd_s T.1 hC e').1
    have e : (if x_formOf (30 * w + g') = 2 then some g' else none) = some g := e
    by_cases z : x_formOf (30 * w + g') = 2
    · rw [if_pos z] at e
      have : g' = g := by simpa using e
      omega
    · rw [if_neg z] at e; exact absurd e (by simp)
/-- TEST that doesn't fit: what comes next is left out -/
theorem xn_v (sm : sm_p C M w inl y_length y_op y_first y_second x_formOf x_lengthOf x_opOf x_classOf x_numberOf x_sourceMethod x_sourceLine x_callLine y_inlined) (h30 : M ≤ 30) (hl6 : ∀ m, m < M → y_length m = nI (hq_t (y_length m)) ∧ hq_t (y_length m) ≤ 6) (hw : w < 2) (k8 : k < 8) {m x : Nat} (mM : m < M) (mF : x_formOf (30 * w + m) = 2) (f1 : fr k = nI (30 * w + m)) (f4 : fl k = nI (po_n inl y_length m x)) (xl : x < hq_t (y_length m)) (n : inl (6 * m + x) < 0)
    {post : SX → Prop} (K : ∀ fl', (∀ j, j ≠ k → fl' j = fl j) → fl' k + 1 = nI (po_n inl y_length m (x + 2)) → post (nI C, nI M, x_ruleCount, x_isBuilt, x_faultPlace, x_namedClasses, x_madeClasses, x_namedMethods, x_liveMethods, nI (k + 1), nI (s + 1), nI o, x_traceCount, x_isInterfaceClass, x_chainOf, x_interfacesOf, x_ancestorsOf, x_homeOf, x_formOf, x_nameOf, x_lengthOf, x_opOf, x_classOf, x_numberOf, x_sourceMethod, x_sourceLine, x_callLine, x_ruleKind, x_ruleClasses, x_ruleNames, x_newNumber, x_familyOf, x_sightOf, fr, fl', fh, oi, x_traceMethod, x_traceLine)) : wpX_leaveNextOut post (nI C, nI M, x_ruleCount, x_isBuilt, x_faultPlace, x_namedClasses, x_madeClasses, x_namedMethods, x_liveMethods, nI (k + 1), nI (s + 1), nI o, x_traceCount, x_isInterfaceClass, x_chainOf, x_interfacesOf, x_ancestorsOf, x_homeOf, x_formOf, x_nameOf, x_lengthOf, x_opOf, x_classOf, x_numberOf, x_sourceMethod, x_sourceLine, x_callLine, x_ruleKind, x_ruleClasses, x_ruleNames, x_newNumber, x_familyOf, x_sightOf, fr, fl, fh, oi, x_traceMethod, x_traceLine) := by
  have l6 := (hl6 m mM).2
  have p24 := po_24 sm.1 h30 mM l6
  have ik : vp_in (nI k) 8 := vp_in_nI (by omega) (by decide)
  have ir : vp_in (nI (30 * w + m)) 60 := vp_in_nI (by omega) (by decide)
  have e1 : po_n inl y_length m (x + 1) = po_n inl y_length m x + 1 := by rw [po_s, gy_1 n]
  have e2 : po_n inl y_length m (x + 2) = po_n inl y_length m (x + 1) + gy_n inl y_length m (x + 1) := po_s _ _ _ _
  have g1 := gy_g inl y_length m (x + 1)
  have g4 := gy_4 sm.1 h30 mM (x + 1)
  have plen := sm.2.1 m mM mF
  have mo : po_n inl y_length m (x + 1) ≤ po_n inl y_length m (hq_t (y_length m)) := ps_mo (gr := gy_n inl y_length m) xl
  -- the call line of the cell behind a advances
  have cell : ∀ a, a + 1 < gy_n inl y_length m (x + 1) → po_n inl y_length m (x + 1) + a + 1 < po_n inl y_length m (hq_t (y_length m)) ∧ x_callLine (24 * (30 * w + m) + (po_n inl y_length m (x + 1) + a + 1)) = nI (x + 1) := fun a ha => by
    have xl2 : x + 1 < hq_t (y_length m) := by
      rcases Nat.lt_or_ge (x + 1) (hq_t (y_length m)) with z | z
      · exact z
      · have : gy_n inl y_length m (x + 1) = 1 := if_neg (fun q => by omega)
        omega
    have nn : ¬ inl (6 * m + (x + 1)) < 0 := fun q => by rw [gy_1 q] at ha; omega
    have mo2 : po_n inl y_length m (x + 2) ≤ po_n inl y_length m (hq_t (y_length m)) := ps_mo (gr := gy_n inl y_length m) xl2
    obtain ⟨q, q6, ey, hc, cS, cU, cA, cn, ci⟩ := sm.2.2 m (x + 1) mM mF xl2
    obtain ⟨_, _, _, _, t, tM, et, l3, lines⟩ := ci nn
    have ht : hq_t (inl (6 * m + (x + 1))) = t := by rw [et]; exact hq_e (by omega)
    have ha0 := ha
    rw [gy_t xl2 nn, ht] at ha
    obtain ⟨_, _, _, _, _, _, _, r6⟩ := lines a (by omega)
    refine ⟨by omega, ?_⟩
    have ee : 24 * (30 * w + m) + (po_n inl y_length m (x + 1) + a + 1) = 24 * (30 * w + m) + po_n inl y_length m (x + 1) + 1 + a := by omega
    rw [ee]; exact r6
  have stop : ∀ a, a + 1 = gy_n inl y_length m (x + 1) → po_n inl y_length m (hq_t (y_length m)) ≤ po_n inl y_length m (x + 1) + a + 1 ∨ (po_n inl y_length m (x + 1) + a + 1 < po_n inl y_length m (hq_t (y_length m)) ∧ x_callLine (24 * (30 * w + m) + (po_n inl y_length m (x + 1) + a + 1)) = -1) := fun a ha => by
    rcases Nat.lt_or_ge (x + 2) (hq_t (y_length m)) with z | z
    · have := po_lt (inl := inl) (ylen := y_length) (m := m) z
      obtain ⟨q, q6, ey, hc, cS, cU, cA, cn, ci⟩ := sm.2.2 m (x + 2) mM mF z
      refine Or.inr ⟨by omega, ?_⟩
      have ee : po_n inl y_length m (x + 1) + a + 1 = po_n inl y_length m (x + 2) := by omega
      rw [ee]; exact cA
    · refine Or.inl ?_
      have : po_n inl y_length m (hq_t (y_length m)) ≤ po_n inl y_length m (x + 2) := ps_mo (gr := gy_n inl y_length m) z
      omega
  have lo : ∀ q i a f fl', i + q = 3 → q < f → (a = gy_n inl y_length m (x + 1) - 1 ∨ (a = i ∧ a + 1 < gy_n inl y_length m (x + 1))) → (∀ j, j ≠ k → fl' j = fl j) → fl' k = nI (po_n inl y_length m (x + 1) + a) →
      wX_leaveNextOut_26 post (nI k) (nI (30 * w + m)) (nI C) (nI M) x_ruleCount x_isBuilt x_faultPlace x_namedClasses x_madeClasses x_namedMethods x_liveMethods (nI (k + 1)) (nI (s + 1)) (nI o) x_traceCount f (nI i) x_isInterfaceClass x_chainOf x_interfacesOf x_ancestorsOf x_homeOf x_formOf x_nameOf x_lengthOf x_opOf x_classOf x_numberOf x_sourceMethod x_sourceLine x_callLine x_ruleKind x_ruleClasses x_ruleNames x_newNumber x_familyOf x_sightOf fr fl' fh oi x_traceMethod x_traceLine := by
    intro q
    induction q with
    | zero =>
      intro i a f fl' e hf ha h1 h2
      obtain ⟨f, rfl⟩ : ∃ q, f = q + 1 := ⟨f - 1, by omega⟩
      rw [wX_leaveNextOut_26]
      refine br_t (nI_le (a := 3) (by omega) (by omega)) (K fl' h1 ?_)
      rw [h2, nI_1]
      exact congrArg nI (by omega)
    | succ q ih =>
      intro i a f fl' e hf ha h1 h2
      obtain ⟨f, rfl⟩ : ∃ q, f = q + 1 := ⟨f - 1, by omega⟩
      rw [wX_leaveNextOut_26]
      refine br_f (nI_ge (b := 3) (by omega) (by decide)) ⟨ik, ?_⟩
      rw [nI_c (show k < 10000 by omega), h2, nI_1]
      refine nm_e ⟨ir, ?_⟩
      rw [nI_c (show 30 * w + m < 10000 by omega), plen, nI_a24]
      rcases ha with ha | ha
      · rcases stop a (by omega) with z | ⟨z, zc⟩
        · exact br_t (nI_le z (by omega)) (nm_r (nI_1 i) (ih (i + 1) a f fl' (by omega) (by omega) (Or.inl ha) h1 h2))
        · refine br_f (nI_ge z (by omega)) ⟨vp_in_nI (by omega) (by decide), ?_⟩
          rw [nI_c (by omega)]
          exact br_t zc (nm_r (nI_1 i) (ih (i + 1) a f fl' (by omega) (by omega) (Or.inl ha) h1 h2))
      · obtain ⟨z, zc⟩ := cell a ha.2
        refine br_f (nI_ge z (by omega)) ⟨vp_in_nI (by omega) (by decide), ?_⟩
        rw [nI_c (show 24 * (30 * w + m) + (po_n inl y_length m (x + 1) + a + 1) < 10000 by omega)]
        refine br_f (by rw [zc]; exact oI_n (by omega)) ⟨ik, ik, nm_e (nm_r (nI_1 i) (ih (i + 1) (a + 1) f _ (by omega) (by omega) ?_ (fun j hj => ?_) ?_))⟩
        · rcases Nat.lt_or_ge (a + 1 + 1) (gy_n inl y_length m (x + 1)) with y | y
          · exact Or.inr ⟨by omega, y⟩
          · exact Or.inl (by omega)
        · rw [pk_un hj]; exact h1 j hj
        · rw [pk_us]; exact congrArg nI (by omega)
  unfold wpX_leaveNextOut
  dsimp only
  refine nm_r (nI_pred k) ⟨ik, ?_⟩
  rw [nI_c (show k < 10000 by omega)]
  refine nm_r f1 ⟨ik, ik, nm_e ⟨4, ?_⟩⟩
  refine lo 3 0 0 4 _ (by omega) (by omega) ?_ (fun j hj => pk_un hj) ?_
  · rcases Nat.lt_or_ge 1 (gy_n inl y_length m (x + 1)) with y | y
    · exact Or.inr ⟨rfl, y⟩
    · exact Or.inl (by omega)
  · rw [pk_us, f4, nI_1, e1]
end
