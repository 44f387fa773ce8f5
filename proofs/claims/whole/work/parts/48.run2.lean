
/-! ===== running: what both sides hold ===== -/
def sm_p (C M w : Nat) (inl ylen yop yfi yse F L O P N S U A yin : Nat → Int32) : Prop :=
  in_ok M inl ylen ∧ (∀ m, m < M → F (30 * w + m) = 2 → L (30 * w + m) = nI (po_n inl ylen m (hq_t (ylen m)))) ∧
  (∀ m x, m < M → F (30 * w + m) = 2 → x < hq_t (ylen m) → ∃ o, o < 6 ∧ yop (6 * m + x) = nI o ∧ (1 ≤ o → o ≤ 4 → ∃ c, c < C ∧ yfi (6 * m + x) = nI c) ∧
    S (24 * (30 * w + m) + po_n inl ylen m x) = nI m ∧ U (24 * (30 * w + m) + po_n inl ylen m x) = nI x ∧ A (24 * (30 * w + m) + po_n inl ylen m x) = -1 ∧
    (inl (6 * m + x) < 0 → O (24 * (30 * w + m) + po_n inl ylen m x) = nI o ∧ (1 ≤ o → o ≤ 4 → P (24 * (30 * w + m) + po_n inl ylen m x) = yfi (6 * m + x)) ∧ (o = 0 → N (24 * (30 * w + m) + po_n inl ylen m x) = yse (6 * m + x))) ∧
    (¬ inl (6 * m + x) < 0 → w = 1 ∧ yin (6 * m + x) = inl (6 * m + x) ∧ O (24 * (30 * w + m) + po_n inl ylen m x) = 6 ∧
      ((o = 2 ∧ P (24 * (30 * w + m) + po_n inl ylen m x) = yfi (6 * m + x)) ∨ (o = 3 ∧ P (24 * (30 * w + m) + po_n inl ylen m x) = -1)) ∧
      ∃ t, t < M ∧ inl (6 * m + x) = nI t ∧ hq_t (ylen t) ≤ 3 ∧ ∀ j, j < hq_t (ylen t) → ∃ q, (q = 0 ∨ q = 5) ∧ yop (6 * t + j) = nI q ∧
        O (24 * (30 * w + m) + po_n inl ylen m x + 1 + j) = nI q ∧ (q = 0 → N (24 * (30 * w + m) + po_n inl ylen m x + 1 + j) = yse (6 * t + j)) ∧
        S (24 * (30 * w + m) + po_n inl ylen m x + 1 + j) = nI t ∧ U (24 * (30 * w + m) + po_n inl ylen m x + 1 + j) = nI j ∧ A (24 * (30 * w + m) + po_n inl ylen m x + 1 + j) = nI x))
def fo_q (C M w : Nat) (inl ylen F fr fl fh vm vl vh : Nat → Int32) (k m x : Nat) : Prop :=
  m < M ∧ F (30 * w + m) = 2 ∧ fr k = nI (30 * w + m) ∧ vm k = nI m ∧ vl k = nI x ∧ fl k = nI (po_n inl ylen m x) ∧ fh k = vh k ∧ (vh k = -1 ∨ ∃ h, h < C ∧ vh k = nI h)
def lo_q (C M w : Nat) (inl ylen F fr fl fh vm vl vh : Nat → Int32) (d : Nat) : Prop :=
  ∀ k, k + 1 < d → ∃ m x, fo_q C M w inl ylen F fr fl fh vm vl vh k m x ∧ x < hq_t (ylen m) ∧ inl (6 * m + x) < 0
def s0_p (C M w : Nat) (inl ylen F fr fl fh vm vl vh : Nat → Int32) (d : Nat) : Prop :=
  d ≤ 8 ∧ lo_q C M w inl ylen F fr fl fh vm vl vh d ∧ (∀ k, k + 1 = d → ∃ m x, fo_q C M w inl ylen F fr fl fh vm vl vh k m x ∧ x ≤ hq_t (ylen m) + 1)
def s1_p (C M w : Nat) (inl ylen F fr fl fh vm vl vh : Nat → Int32) (k m x t j : Nat) : Prop :=
  k + 1 < 8 ∧ lo_q C M w inl ylen F fr fl fh vm vl vh (k + 1) ∧ m < M ∧ F (30 * w + m) = 2 ∧ x < hq_t (ylen m) ∧ inl (6 * m + x) = nI t ∧ t < M ∧ j < hq_t (ylen t) ∧
    fr k = nI (30 * w + m) ∧ vm k = nI m ∧ vl k = nI x ∧ fl k = nI (po_n inl ylen m x + 1 + j) ∧ fh k = vh k ∧ (vh k = -1 ∨ ∃ h, h < C ∧ vh k = nI h) ∧ vm (k + 1) = nI t ∧ vl (k + 1) = nI j ∧ (vh (k + 1) = -1 ∨ ∃ h, h < C ∧ vh (k + 1) = nI h)
theorem gy_g (inl ylen : Nat → Int32) (m x : Nat) : 1 ≤ gy_n inl ylen m x := by
  unfold gy_n; split <;> omega
theorem po_lt {inl ylen : Nat → Int32} {m x y : Nat} (h : x < y) : po_n inl ylen m x < po_n inl ylen m y := by
  have g := gy_g inl ylen m x
  have mo : po_n inl ylen m (x + 1) ≤ po_n inl ylen m y := ps_mo (gr := gy_n inl ylen m) h
  have e := po_s inl ylen m x
  omega
theorem fo_cg {C M w : Nat} {inl ylen F fr fl fh vm vl vh fr' fl' fh' vm' vl' vh' : Nat → Int32} {k m x : Nat} (h : fo_q C M w inl ylen F fr fl fh vm vl vh k m x)
    (e1 : fr' k = fr k) (e2 : fl' k = fl k) (e3 : fh' k = fh k) (e4 : vm' k = vm k) (e5 : vl' k = vl k) (e6 : vh' k = vh k) : fo_q C M w inl ylen F fr' fl' fh' vm' vl' vh' k m x := by
  unfold fo_q at h ⊢
  rw [e1, e2, e3, e4, e5, e6]
  exact h
theorem lo_cg {C M w : Nat} {inl ylen F fr fl fh vm vl vh fr' fl' fh' vm' vl' vh' : Nat → Int32} {d d' : Nat} (h : lo_q C M w inl ylen F fr fl fh vm vl vh d) (hd : d' ≤ d)
    (e1 : ∀ k, k + 1 < d' → fr' k = fr k) (e2 : ∀ k, k + 1 < d' → fl' k = fl k) (e3 : ∀ k, k + 1 < d' → fh' k = fh k) (e4 : ∀ k, k + 1 < d' → vm' k = vm k) (e5 : ∀ k, k + 1 < d' → vl' k = vl k) (e6 : ∀ k, k + 1 < d' → vh' k = vh k) :
    lo_q C M w inl ylen F fr' fl' fh' vm' vl' vh' d' := fun k hk => by
  obtain ⟨m, x, f, r⟩ := h k (by omega)
  exact ⟨m, x, fo_cg f (e1 k hk) (e2 k hk) (e3 k hk) (e4 k hk) (e5 k hk) (e6 k hk), r⟩
section
variable {x_classCount x_methodCount x_ruleCount x_isBuilt x_faultPlace x_namedClasses x_madeClasses x_namedMethods x_liveMethods x_depth x_stepCount x_outCount x_traceCount : Int32} {x_isInterfaceClass x_chainOf x_interfacesOf x_ancestorsOf x_homeOf x_formOf x_nameOf x_lengthOf x_opOf x_classOf x_numberOf x_sourceMethod x_sourceLine x_callLine x_ruleKind x_ruleClasses x_ruleNames x_newNumber x_familyOf x_sightOf x_frameRow x_frameLine x_frameHeld x_outInts x_traceMethod x_traceLine : Nat → Int32} {y_classes y_methods y_rules y_place y_named y_made y_namedMethods y_live y_built y_depth y_steps y_outs y_ending : Int32} {y_isInterface y_isAbstract y_parent y_ancestors y_own y_many y_home y_name y_length y_op y_first y_second y_ruleKind y_ruleClasses y_ruleNames y_inlined y_number y_newName y_family y_vMethod y_vLine y_vHeld y_put : Nat → Int32} {C M w s o : Nat} {inl vm vh oi : Nat → Int32}
/-- finished frames end -/
theorem xe_f (hw : w < 2) (h30 : M ≤ 30) (hl6 : ∀ m, m < M → y_length m = nI (hq_t (y_length m)) ∧ hq_t (y_length m) ≤ 6) (sm : sm_p C M w inl y_length y_op y_first y_second x_formOf x_lengthOf x_opOf x_classOf x_numberOf x_sourceMethod x_sourceLine x_callLine y_inlined) {post : SX → Prop} {GB : (Int32 → SY → Prop) → Prop}
    (K : ∀ d fl vl, s0_p C M w inl y_length x_formOf x_frameRow fl x_frameHeld vm vl vh d → (∀ k, k + 1 = d → ∃ m x, fo_q C M w inl y_length x_formOf x_frameRow fl x_frameHeld vm vl vh k m x ∧ x < hq_t (y_length m)) → (∀ ypost : Int32 → SY → Prop, (∃ n, wY_run_162 ypost (nI w) n (nI C) (nI M) y_rules y_place y_named y_made y_namedMethods y_live y_built (nI d) (nI s) (nI o) (-1) x_isInterfaceClass y_isAbstract y_parent x_ancestorsOf x_interfacesOf y_many x_homeOf y_name y_length y_op y_first y_second x_ruleKind x_ruleClasses x_ruleNames y_inlined y_number y_newName y_family vm vl vh oi) → GB ypost) → post (x_classCount, x_methodCount, x_ruleCount, x_isBuilt, x_faultPlace, x_namedClasses, x_madeClasses, x_namedMethods, x_liveMethods, nI d, x_stepCount, x_outCount, x_traceCount, x_isInterfaceClass, x_chainOf, x_interfacesOf, x_ancestorsOf, x_homeOf, x_formOf, x_nameOf, x_lengthOf, x_opOf, x_classOf, x_numberOf, x_sourceMethod, x_sourceLine, x_callLine, x_ruleKind, x_ruleClasses, x_ruleNames, x_newNumber, x_familyOf, x_sightOf, x_frameRow, fl, x_frameHeld, x_outInts, x_traceMethod, x_traceLine)) :
    ∀ d c fu fl vl, d + c ≤ 8 → d < fu → s0_p C M w inl y_length x_formOf x_frameRow fl x_frameHeld vm vl vh d → (∀ ypost : Int32 → SY → Prop, (∃ n, wY_run_162 ypost (nI w) n (nI C) (nI M) y_rules y_place y_named y_made y_namedMethods y_live y_built (nI d) (nI s) (nI o) (-1) x_isInterfaceClass y_isAbstract y_parent x_ancestorsOf x_interfacesOf y_many x_homeOf y_name y_length y_op y_first y_second x_ruleKind x_ruleClasses x_ruleNames y_inlined y_number y_newName y_family vm vl vh oi) → GB ypost) →
      wX_endFinished_2 post x_classCount x_methodCount x_ruleCount x_isBuilt x_faultPlace x_namedClasses x_madeClasses x_namedMethods x_liveMethods x_stepCount x_outCount x_traceCount fu (nI c) (nI d) x_isInterfaceClass x_chainOf x_interfacesOf x_ancestorsOf x_homeOf x_formOf x_nameOf x_lengthOf x_opOf x_classOf x_numberOf x_sourceMethod x_sourceLine x_callLine x_ruleKind x_ruleClasses x_ruleNames x_newNumber x_familyOf x_sightOf x_frameRow fl x_frameHeld x_outInts x_traceMethod x_traceLine := by
  intro d
  induction d with
  | zero =>
    intro c fu fl vl h8 hf s0 g
    obtain ⟨fu, rfl⟩ : ∃ q, fu = q + 1 := ⟨fu - 1, by omega⟩
    have fin := K 0 fl vl s0 (fun k hk => by omega) g
    rw [wX_endFinished_2]
    exact br_c (fun _ => fin) (fun _ => br_t (by decide) fin)
  | succ k ih =>
    intro c fu fl vl h8 hf s0 g
    obtain ⟨fu, rfl⟩ : ∃ q, fu = q + 1 := ⟨fu - 1, by omega⟩
    obtain ⟨m, x, fq, xl⟩ := s0.2.2 k rfl
    obtain ⟨mM, mF, f1, f2, f3, f4, f5, f6⟩ := fq
    have l6 := hl6 m mM
    have ik : vp_in (nI k) 8 := vp_in_nI (by omega) (by decide)
    have p24 := po_24 sm.1 h30 mM l6.2
    rw [wX_endFinished_2]
    refine br_f (nI_ge (b := 8) (by omega) (by decide)) (br_f (nI_nle (by omega) (by omega)) (nm_r (nI_pred k) ⟨ik, ik, ?_⟩))
    rw [nI_c (show k < 10000 by omega), f1, nI_c (show 30 * w + m < 10000 by omega), sm.2.1 m mM mF, f4]
    have px : po_n inl y_length m x ≤ 32 := by
      rcases Nat.lt_or_ge x (hq_t (y_length m)) with z | z
      · have := po_lt (inl := inl) (ylen := y_length) (m := m) z; omega
      · have := ps_4 (gy_4 sm.1 h30 mM) x
        have : po_n inl y_length m x ≤ 4 * x := this
        omega
    refine ⟨vp_in_nI (by omega) (by decide), pk_le (po_n inl y_length m (hq_t (y_length m))) (po_n inl y_length m x) (fun le => ?_) (fun lt => ?_)⟩
    · have xl2 : hq_t (y_length m) ≤ x := by
        rcases Nat.lt_or_ge x (hq_t (y_length m)) with z | z
        · have := po_lt (inl := inl) (ylen := y_length) (m := m) z; omega
        · exact z
      have pop : ∀ ypost : Int32 → SY → Prop, (∃ n, wY_run_162 ypost (nI w) n (nI C) (nI M) y_rules y_place y_named y_made y_namedMethods y_live y_built (nI k) (nI s) (nI o) (-1) x_isInterfaceClass y_isAbstract y_parent x_ancestorsOf x_interfacesOf y_many x_homeOf y_name y_length y_op y_first y_second x_ruleKind x_ruleClasses x_ruleNames y_inlined y_number y_newName y_family vm (if k = 0 then vl else upd vl (k - 1) (vl (k - 1) + 1)) vh oi) → GB ypost := fun yp h =>
        g yp (y_pop hw (by omega) f2 (by omega) (by rw [f3, l6.1]; exact nI_nlt xl2 (by omega)) h)
      refine nm_r (nI_pred k) ?_
      rcases Nat.eq_zero_or_pos k with z | z
      · subst z
        rw [if_pos rfl] at pop
        refine br_t (by decide) (nm_r (nI_1 c) (ih (c + 1) fu fl vl (by omega) (by omega) ⟨by omega, fun k hk => by omega, fun k hk => by omega⟩ pop))
      · obtain ⟨q, rfl⟩ : ∃ q, k = q + 1 := ⟨k - 1, by omega⟩
        rw [if_neg (by omega)] at pop
        obtain ⟨m', x', fq', x'l, x'n⟩ := s0.2.1 q (by omega)
        obtain ⟨mM', mF', g1, g2, g3, g4, g5, g6⟩ := fq'
        have iq : vp_in (nI q) 8 := vp_in_nI (by omega) (by decide)
        rw [nI_pred, nI_c (show q < 10000 by omega)]
        refine br_f (nI_nle (by omega) (by omega)) ⟨iq, iq, nm_e (nm_r (nI_1 c) (ih (c + 1) fu _ (upd vl q (vl q + 1)) (by omega) (by omega) ⟨by omega, ?_, fun k' hk' => ?_⟩ pop))⟩
        · exact lo_cg s0.2.1 (by omega) (fun _ _ => rfl) (fun k' hk' => pk_un (by omega)) (fun _ _ => rfl) (fun _ _ => rfl) (fun k' hk' => pk_un (by omega)) (fun _ _ => rfl)
        · have : k' = q := by omega
          subst this
          refine ⟨m', x' + 1, ⟨mM', mF', g1, g2, ?_, ?_, g5, g6⟩, by omega⟩
          · rw [pk_us, g3, nI_1]
          · rw [pk_us, g4, nI_1, po_s, gy_1 x'n]
    · have xl2 : x < hq_t (y_length m) := by
        rcases Nat.lt_or_ge x (hq_t (y_length m)) with z | z
        · exact z
        · have : po_n inl y_length m (hq_t (y_length m)) ≤ po_n inl y_length m x := ps_mo (gr := gy_n inl y_length m) z
          omega
      exact K (k + 1) fl vl s0 (fun k' hk' => by
        have : k' = k := by omega
        subst this
        exact ⟨m, x, ⟨mM, mF, f1, f2, f3, f4, f5, f6⟩, xl2⟩) g
end
