/-! ===== running: calls, held objects ===== -/
def ft_v (M w : Nat) (anc chn hom F nm : Nat → Int32) (n : Int32) (h : Nat) : Option Nat :=
  match fd_v M anc chn hom (fun m => decide (¬ F (30 * w + m) = 0) && decide (nm (30 * w + m) = n)) h with
  | some g => if F (30 * w + g) = 2 then some g else none
  | none => none
section
variable {x_classCount x_methodCount x_ruleCount x_isBuilt x_faultPlace x_namedClasses x_madeClasses x_namedMethods x_liveMethods x_depth x_stepCount x_outCount x_traceCount : Int32} {x_isInterfaceClass x_chainOf x_interfacesOf x_ancestorsOf x_homeOf x_formOf x_nameOf x_lengthOf x_opOf x_classOf x_numberOf x_sourceMethod x_sourceLine x_callLine x_ruleKind x_ruleClasses x_ruleNames x_newNumber x_familyOf x_sightOf x_frameRow x_frameLine x_frameHeld x_outInts x_traceMethod x_traceLine : Nat → Int32} {y_classes y_methods y_rules y_place y_named y_made y_namedMethods y_live y_built y_depth y_steps y_outs y_ending : Int32} {y_isInterface y_isAbstract y_parent y_ancestors y_own y_many y_home y_name y_length y_op y_first y_second y_ruleKind y_ruleClasses y_ruleNames y_inlined y_number y_newName y_family y_vMethod y_vLine y_vHeld y_put : Nat → Int32} {C M R w s o k : Nat} {inl fr fl fh vm vl vh oi : Nat → Int32} {ypost : Int32 → SY → Prop} {P : Int32 → SX → Prop} {GB : Prop}
/-- a call in X -/
theorem ca_x (T : tp_p C M R x_isInterfaceClass x_ancestorsOf x_interfacesOf x_chainOf y_parent y_many x_homeOf x_ruleKind x_ruleClasses x_ruleNames x_formOf x_nameOf x_lengthOf y_isAbstract y_name y_length x_opOf x_classOf x_numberOf x_sourceMethod x_sourceLine x_callLine y_op y_first y_second) (hw : w < 2) (k8 : k < 8) {h : Nat} (hC : h < C) {n : Int32} (k3 : ft_v M w x_ancestorsOf x_chainOf x_homeOf x_formOf x_nameOf n h = none → P 3 (nI C, nI M, x_ruleCount, x_isBuilt, x_faultPlace, x_namedClasses, x_madeClasses, x_namedMethods, x_liveMethods, nI (k + 1), nI (s + 1), nI o, x_traceCount, x_isInterfaceClass, x_chainOf, x_interfacesOf, x_ancestorsOf, x_homeOf, x_formOf, x_nameOf, x_lengthOf, x_opOf, x_classOf, x_numberOf, x_sourceMethod, x_sourceLine, x_callLine, x_ruleKind, x_ruleClasses, x_ruleNames, x_newNumber, x_familyOf, x_sightOf, fr, fl, fh, oi, x_traceMethod, x_traceLine))
    (kg : ∀ g, g < M → x_formOf (30 * w + g) = 2 → ft_v M w x_ancestorsOf x_chainOf x_homeOf x_formOf x_nameOf n h = some g → (k + 1 = 8 → P 4 (nI C, nI M, x_ruleCount, x_isBuilt, x_faultPlace, x_namedClasses, x_madeClasses, x_namedMethods, x_liveMethods, nI (k + 1), nI (s + 1), nI o, x_traceCount, x_isInterfaceClass, x_chainOf, x_interfacesOf, x_ancestorsOf, x_homeOf, x_formOf, x_nameOf, x_lengthOf, x_opOf, x_classOf, x_numberOf, x_sourceMethod, x_sourceLine, x_callLine, x_ruleKind, x_ruleClasses, x_ruleNames, x_newNumber, x_familyOf, x_sightOf, fr, fl, fh, oi, x_traceMethod, x_traceLine)) ∧ (k + 1 < 8 → P (-1) (nI C, nI M, x_ruleCount, x_isBuilt, x_faultPlace, x_namedClasses, x_madeClasses, x_namedMethods, x_liveMethods, nI (k + 2), nI (s + 1), nI o, x_traceCount, x_isInterfaceClass, x_chainOf, x_interfacesOf, x_ancestorsOf, x_homeOf, x_formOf, x_nameOf, x_lengthOf, x_opOf, x_classOf, x_numberOf, x_sourceMethod, x_sourceLine, x_callLine, x_ruleKind, x_ruleClasses, x_ruleNames, x_newNumber, x_familyOf, x_sightOf, upd fr (k + 1) (nI (30 * w + g)), upd fl (k + 1) 0, upd fh (k + 1) (fh k), oi, x_traceMethod, x_traceLine))) :
    wpX_find (fun r => wpX_invoke P (nI C, nI M, x_ruleCount, x_isBuilt, x_faultPlace, x_namedClasses, x_madeClasses, x_namedMethods, x_liveMethods, nI (k + 1), nI (s + 1), nI o, x_traceCount, x_isInterfaceClass, x_chainOf, x_interfacesOf, x_ancestorsOf, x_homeOf, x_formOf, x_nameOf, x_lengthOf, x_opOf, x_classOf, x_numberOf, x_sourceMethod, x_sourceLine, x_callLine, x_ruleKind, x_ruleClasses, x_ruleNames, x_newNumber, x_familyOf, x_sightOf, fr, fl, fh, oi, x_traceMethod, x_traceLine) (nI w) r) (nI C, nI M, x_ruleCount, x_isBuilt, x_faultPlace, x_namedClasses, x_madeClasses, x_namedMethods, x_liveMethods, nI (k + 1), nI (s + 1), nI o, x_traceCount, x_isInterfaceClass, x_chainOf, x_interfacesOf, x_ancestorsOf, x_homeOf, x_formOf, x_nameOf, x_lengthOf, x_opOf, x_classOf, x_numberOf, x_sourceMethod, x_sourceLine, x_callLine, x_ruleKind, x_ruleClasses, x_ruleNames, x_newNumber, x_familyOf, x_sightOf, fr, fl, fh, oi, x_traceMethod, x_traceLine) (nI w) (nI h) n := by
  have h30 := T.2.2.1.1
  have h10 := T.1.1
  refine xf_v (w := w) T.1.1 T.2.2.1 hw hC (fun i => (T.1.2 h hC).2.2.2.1 i) (fun m => decide (¬ x_formOf (30 * w + m) = 0) && decide (x_nameOf (30 * w + m) = n)) (fun m hm => by rw [bb_a, decide_eq_true_eq, decide_eq_true_eq]) rfl ?_
  unfold wpX_invoke
  dsimp only
  cases e : fd_v M x_ancestorsOf x_chainOf x_homeOf (fun m => decide (¬ x_formOf (30 * w + m) = 0) && decide (x_nameOf (30 * w + m) = n)) h with
  | none =>
    refine br_t rfl (k3 ?_)
    unfold ft_v
    rw [e]
  | some g =>
    have gM := (fd_s T.1 hC e).1
    rw [oI_s, nI_a30, nI_c (show 30 * w + g < 10000 by omega)]
    refine br_f (oI_n (by omega)) ⟨vp_in_nI (by omega) (by decide), br_c (fun f2 => ?_) (fun f2 => k3 ?_)⟩
    · have ft : ft_v M w x_ancestorsOf x_chainOf x_homeOf x_formOf x_nameOf n h = some g := by
        unfold ft_v
        rw [e]
        exact if_pos f2
      obtain ⟨a4, ap⟩ := kg g gM f2 ft
      refine pk_eq (k + 1) 8 (fun z => a4 z) (fun z => ?_)
      have i8 : vp_in (nI (k + 1)) 8 := vp_in_nI (by omega) (by decide)
      have ik : vp_in (nI k) 8 := vp_in_nI (by omega) (by decide)
      rw [nI_c (show k + 1 < 10000 by omega), nI_pred, nI_c (show k < 10000 by omega)]
      exact ⟨i8, nm_e ⟨i8, nm_e ⟨ik, i8, nm_e (nm_r (nI_1 (k + 1)) (ap (by omega)))⟩⟩⟩
    · unfold ft_v
      rw [e]
      exact if_neg f2
/-- a call in Y -/
theorem ca_y {Q : SY → Prop} (k8 : k < 8) {f : Option Nat} (hf : ∀ g, f = some g → g < 30) (a3 : f = none → Q (nI C, nI M, y_rules, y_place, y_named, y_made, y_namedMethods, y_live, y_built, nI (k + 1), nI (s + 1), nI o, 3, x_isInterfaceClass, y_isAbstract, y_parent, x_ancestorsOf, x_interfacesOf, y_many, x_homeOf, y_name, y_length, y_op, y_first, y_second, x_ruleKind, x_ruleClasses, x_ruleNames, y_inlined, y_number, y_newName, y_family, vm, vl, vh, oi))
    (a4 : ∀ g, f = some g → k + 1 = 8 → Q (nI C, nI M, y_rules, y_place, y_named, y_made, y_namedMethods, y_live, y_built, nI (k + 1), nI (s + 1), nI o, 4, x_isInterfaceClass, y_isAbstract, y_parent, x_ancestorsOf, x_interfacesOf, y_many, x_homeOf, y_name, y_length, y_op, y_first, y_second, x_ruleKind, x_ruleClasses, x_ruleNames, y_inlined, y_number, y_newName, y_family, vm, vl, vh, oi))
    (ap : ∀ g, f = some g → k + 1 < 8 → Q (nI C, nI M, y_rules, y_place, y_named, y_made, y_namedMethods, y_live, y_built, nI (k + 2), nI (s + 1), nI o, -1, x_isInterfaceClass, y_isAbstract, y_parent, x_ancestorsOf, x_interfacesOf, y_many, x_homeOf, y_name, y_length, y_op, y_first, y_second, x_ruleKind, x_ruleClasses, x_ruleNames, y_inlined, y_number, y_newName, y_family, upd vm (k + 1) (nI g), upd vl (k + 1) 0, upd vh (k + 1) (vh k), oi)) :
    wY_call_87 Q (oI f) (nI C) (nI M) y_rules y_place y_named y_made y_namedMethods y_live y_built (nI (k + 1)) (nI (s + 1)) (nI o) (-1) x_isInterfaceClass y_isAbstract y_parent x_ancestorsOf x_interfacesOf y_many x_homeOf y_name y_length y_op y_first y_second x_ruleKind x_ruleClasses x_ruleNames y_inlined y_number y_newName y_family vm vl vh oi := by
  unfold wY_call_87
  cases f with
  | none => exact br_f (by decide) (a3 rfl)
  | some g =>
    have g30 := hf g rfl
    have ik : vp_in (nI k) 8 := vp_in_nI (by omega) (by decide)
    rw [oI_s, nI_pred, nI_c (show k < 10000 by omega)]
    refine br_t (nI_pos' (by omega)) ⟨ik, ?_⟩
    unfold wpY_begin
    dsimp only
    refine pk_eq (k + 1) 8 (fun z => a4 g rfl z) (fun z => ?_)
    have i8 : vp_in (nI (k + 1)) 8 := vp_in_nI (by omega) (by decide)
    rw [nI_c (show k + 1 < 10000 by omega)]
    exact ⟨i8, nm_e ⟨i8, nm_e ⟨i8, nm_e (nm_r (nI_1 (k + 1)) (ap g rfl (by omega)))⟩⟩⟩
theorem xi_b (h10 : C ≤ 10) (k8 : k < 8) {c : Nat} (hc : c < C) (hh : fh k = -1 ∨ ∃ h, h < C ∧ fh k = nI h) {A B : Prop} (t : ∀ h, h < C → fh k = nI h → bt (x_ancestorsOf h) c = true → B) (f : ¬ (∃ h, h < C ∧ fh k = nI h ∧ bt (x_ancestorsOf h) c = true) → A) :
    wpX_isHeld (fun r => (r = 0 → A) ∧ (¬ r = 0 → B)) (nI C, nI M, x_ruleCount, x_isBuilt, x_faultPlace, x_namedClasses, x_madeClasses, x_namedMethods, x_liveMethods, nI (k + 1), nI (s + 1), nI o, x_traceCount, x_isInterfaceClass, x_chainOf, x_interfacesOf, x_ancestorsOf, x_homeOf, x_formOf, x_nameOf, x_lengthOf, x_opOf, x_classOf, x_numberOf, x_sourceMethod, x_sourceLine, x_callLine, x_ruleKind, x_ruleClasses, x_ruleNames, x_newNumber, x_familyOf, x_sightOf, fr, fl, fh, oi, x_traceMethod, x_traceLine) (nI c) := by
  have ik : vp_in (nI k) 8 := vp_in_nI (by omega) (by decide)
  unfold wpX_isHeld
  dsimp only
  rw [nI_pred, nI_c (show k < 10000 by omega)]
  refine ⟨ik, ?_⟩
  rcases hh with e | ⟨h, hC, e⟩
  · refine nm_r e (br_t rfl (br_0 (f ?_)))
    rintro ⟨h, hC, e', _⟩
    rw [e] at e'
    exact oI_n (by omega) e'.symm
  · refine nm_r e (br_f (oI_n (by omega)) ?_)
    refine xd_b (by omega) (by omega) (fun b => br_1 (t h hC e b)) (fun b => br_0 (f ?_))
    rintro ⟨h', hC', e', b'⟩
    rw [e] at e'
    have : h = h' := (nI_eq (by omega) (by omega)).mp e'
    subst this; exact b b'
/-- does the held object fit, in Y -/
theorem ys_b {Q : SY → Prop} (h10 : C ≤ 10) (k8 : k < 8) {j q : Nat} (hj : j < 180) (ho : y_op j = nI q) (q6 : q < 6) (hc : 1 ≤ q → q ≤ 4 → ∃ c, c < C ∧ y_first j = nI c) (hh : vh k = -1 ∨ ∃ h, h < C ∧ vh k = nI h)
    (t : ∀ h, h < C → vh k = nI h → 1 ≤ q → q ≤ 4 → bt (x_ancestorsOf h) (hq_t (y_first j)) = true → wY_step_60 Q (nI w) (nI k) (nI j) (y_first j) (nI h) 1 (nI C) (nI M) y_rules y_place y_named y_made y_namedMethods y_live y_built (nI (k + 1)) (nI (s + 1)) (nI o) (-1) x_isInterfaceClass y_isAbstract y_parent x_ancestorsOf x_interfacesOf y_many x_homeOf y_name y_length y_op y_first y_second x_ruleKind x_ruleClasses x_ruleNames y_inlined y_number y_newName y_family vm vl vh oi)
    (f : ¬ (∃ h, h < C ∧ vh k = nI h ∧ 1 ≤ q ∧ q ≤ 4 ∧ bt (x_ancestorsOf h) (hq_t (y_first j)) = true) → wY_step_60 Q (nI w) (nI k) (nI j) (y_first j) (vh k) 0 (nI C) (nI M) y_rules y_place y_named y_made y_namedMethods y_live y_built (nI (k + 1)) (nI (s + 1)) (nI o) (-1) x_isInterfaceClass y_isAbstract y_parent x_ancestorsOf x_interfacesOf y_many x_homeOf y_name y_length y_op y_first y_second x_ruleKind x_ruleClasses x_ruleNames y_inlined y_number y_newName y_family vm vl vh oi) : wpY_step Q (nI C, nI M, y_rules, y_place, y_named, y_made, y_namedMethods, y_live, y_built, nI (k + 1), nI (s + 1), nI o, -1, x_isInterfaceClass, y_isAbstract, y_parent, x_ancestorsOf, x_interfacesOf, y_many, x_homeOf, y_name, y_length, y_op, y_first, y_second, x_ruleKind, x_ruleClasses, x_ruleNames, y_inlined, y_number, y_newName, y_family, vm, vl, vh, oi) (nI w) (nI k) (nI j) := by
  have ik : vp_in (nI k) 8 := vp_in_nI (by omega) (by decide)
  have ij : vp_in (nI j) 180 := vp_in_nI hj (by decide)
  have f' : ¬ (∃ h, h < C ∧ vh k = nI h ∧ 1 ≤ q ∧ q ≤ 4 ∧ bt (x_ancestorsOf h) (hq_t (y_first j)) = true) → wY_step_59 Q (nI w) (nI k) (nI j) (y_first j) (vh k) (nI C) (nI M) y_rules y_place y_named y_made y_namedMethods y_live y_built (nI (k + 1)) (nI (s + 1)) (nI o) (-1) x_isInterfaceClass y_isAbstract y_parent x_ancestorsOf x_interfacesOf y_many x_homeOf y_name y_length y_op y_first y_second x_ruleKind x_ruleClasses x_ruleNames y_inlined y_number y_newName y_family vm vl vh oi := fun z => by
    unfold wY_step_59
    exact f z
  unfold wpY_step
  dsimp only
  rw [nI_c (show j < 10000 by omega), nI_c (show k < 10000 by omega)]
  refine ⟨ij, nm_e ⟨ik, nm_e ?_⟩⟩
  rcases hh with e | ⟨h, hC, e⟩
  · refine br_t (by rw [e]; decide) (f' ?_)
    rintro ⟨h, hC, e', _⟩
    rw [e] at e'
    exact oI_n (by omega) e'.symm
  · have ih : vp_in (nI h) 10 := vp_in_nI (by omega) (by decide)
    refine br_f (by rw [e]; exact nI_pos (by omega)) ⟨ij, ?_⟩
    rw [ho]
    refine pk_eq q 0 (fun z => f' ?_) (fun z0 => ⟨ij, pk_eq q 5 (fun z => f' ?_) (fun z5 => ⟨by rw [e]; exact ih, ?_⟩)⟩)
    · rintro ⟨_, _, _, a, _⟩; omega
    · rintro ⟨_, _, _, _, a, _⟩; omega
    · obtain ⟨c, cC, ec⟩ := hc (by omega) (by omega)
      rw [e, nI_c (show h < 10000 by omega)]
      have hce : hq_t (y_first j) = c := by rw [ec]; exact hq_e (by omega)
      rw [ec]
      refine yb_b (by omega) (fun b => ?_) (fun b => ?_)
      · have := t h hC e (by omega) (by omega) (by rw [hce]; exact b)
        rw [ec] at this; exact this
      · have := f' (by
          rintro ⟨h', hC', e', _, _, b'⟩
          rw [e] at e'
          have : h = h' := (nI_eq (by omega) (by omega)).mp e'
          subst this
          rw [hce] at b'; exact b b')
        rw [ec, e] at this; exact this
end
