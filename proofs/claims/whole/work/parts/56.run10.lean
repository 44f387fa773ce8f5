/-! ===== run ===== -/
section
variable {x_classCount x_methodCount x_ruleCount x_isBuilt x_faultPlace x_namedClasses x_madeClasses x_namedMethods x_liveMethods x_depth x_stepCount x_outCount x_traceCount : Int32} {x_isInterfaceClass x_chainOf x_interfacesOf x_ancestorsOf x_homeOf x_formOf x_nameOf x_lengthOf x_opOf x_classOf x_numberOf x_sourceMethod x_sourceLine x_callLine x_ruleKind x_ruleClasses x_ruleNames x_newNumber x_familyOf x_sightOf x_frameRow x_frameLine x_frameHeld x_outInts x_traceMethod x_traceLine : Nat → Int32} {y_classes y_methods y_rules y_place y_named y_made y_namedMethods y_live y_built y_depth y_steps y_outs y_ending : Int32} {y_isInterface y_isAbstract y_parent y_ancestors y_own y_many y_home y_name y_length y_op y_first y_second y_ruleKind y_ruleClasses y_ruleNames y_inlined y_number y_newName y_family y_vMethod y_vLine y_vHeld y_put : Nat → Int32} {C M R w : Nat} {inl : Nat → Int32}
theorem rn_b (T : tp_p C M R x_isInterfaceClass x_ancestorsOf x_interfacesOf x_chainOf y_parent y_many x_homeOf x_ruleKind x_ruleClasses x_ruleNames x_formOf x_nameOf x_lengthOf y_isAbstract y_name y_length x_opOf x_classOf x_numberOf x_sourceMethod x_sourceLine x_callLine y_op y_first y_second) (hw : w < 2) (sm : sm_p C M w inl y_length y_op y_first y_second x_formOf x_lengthOf x_opOf x_classOf x_numberOf x_sourceMethod x_sourceLine x_callLine y_inlined) (HY : (∀ {Q : SY → Prop} {k s o : Nat} {vm vl vh oi : Nat → Int32} {m x h : Nat} {cc : Int32}, m < M → x_formOf (30 * w + m) = 2 → x < hq_t (y_length m) → inl (6 * m + x) < 0 → (y_op (6 * m + x) = 2 ∨ y_op (6 * m + x) = 3) → h < C → (cc = nI h ∨ (cc = -1 ∧ y_first (6 * m + x) = nI h)) → wY_call_87 Q (oI (ft_v M w x_ancestorsOf x_chainOf x_homeOf x_formOf x_nameOf (x_numberOf (24 * (30 * w + m) + po_n inl y_length m x)) h)) (nI C) (nI M) y_rules y_place y_named y_made y_namedMethods y_live y_built (nI (k + 1)) (nI (s + 1)) (nI o) (-1) x_isInterfaceClass y_isAbstract y_parent x_ancestorsOf x_interfacesOf y_many x_homeOf y_name y_length y_op y_first y_second x_ruleKind x_ruleClasses x_ruleNames y_inlined y_number y_newName y_family vm vl vh oi → wpY_call Q (nI C, nI M, y_rules, y_place, y_named, y_made, y_namedMethods, y_live, y_built, nI (k + 1), nI (s + 1), nI o, -1, x_isInterfaceClass, y_isAbstract, y_parent, x_ancestorsOf, x_interfacesOf, y_many, x_homeOf, y_name, y_length, y_op, y_first, y_second, x_ruleKind, x_ruleClasses, x_ruleNames, y_inlined, y_number, y_newName, y_family, vm, vl, vh, oi) (nI w) (nI (6 * m + x)) cc)) {m : Nat} (mM : m < M) (mF : x_formOf (30 * w + m) = 2) {Q : Int32 → SX → Prop}
    (K : ∀ (r : Int32) (s o d e : Nat) (fr fl fh vm vl vh oi : Nat → Int32), ((e = d ∧ s0_p C M w inl y_length x_formOf fr fl fh vm vl vh d ∧ ∀ k, k + 1 = d → ∃ m x, fo_q C M w inl y_length x_formOf fr fl fh vm vl vh k m x ∧ x < hq_t (y_length m)) ∨ ∃ k m x t j, d = k + 1 ∧ e = k + 2 ∧ s1_p C M w inl y_length x_formOf fr fl fh vm vl vh k m x t j) → o ≤ 200 → (∀ ypost : Int32 → SY → Prop, ypost r (nI C, nI M, y_rules, y_place, y_named, y_made, y_namedMethods, y_live, y_built, nI e, nI s, nI o, r, x_isInterfaceClass, y_isAbstract, y_parent, x_ancestorsOf, x_interfacesOf, y_many, x_homeOf, y_name, y_length, y_op, y_first, y_second, x_ruleKind, x_ruleClasses, x_ruleNames, y_inlined, y_number, y_newName, y_family, vm, vl, vh, oi) → ∃ n, wY_run_162 ypost (nI w) n (nI C) (nI M) y_rules y_place y_named y_made y_namedMethods y_live y_built (nI 1) (nI 0) (nI 0) (-1) x_isInterfaceClass y_isAbstract y_parent x_ancestorsOf x_interfacesOf y_many x_homeOf y_name y_length y_op y_first y_second x_ruleKind x_ruleClasses x_ruleNames y_inlined y_number y_newName y_family (upd y_vMethod 0 (nI m)) (upd y_vLine 0 0) (upd y_vHeld 0 (-1)) x_outInts) → Q r (nI C, nI M, x_ruleCount, x_isBuilt, x_faultPlace, x_namedClasses, x_madeClasses, x_namedMethods, x_liveMethods, nI d, nI s, nI o, x_traceCount, x_isInterfaceClass, x_chainOf, x_interfacesOf, x_ancestorsOf, x_homeOf, x_formOf, x_nameOf, x_lengthOf, x_opOf, x_classOf, x_numberOf, x_sourceMethod, x_sourceLine, x_callLine, x_ruleKind, x_ruleClasses, x_ruleNames, x_newNumber, x_familyOf, x_sightOf, fr, fl, fh, oi, x_traceMethod, x_traceLine)) :
    wpX_doSteps Q (nI C, nI M, x_ruleCount, x_isBuilt, x_faultPlace, x_namedClasses, x_madeClasses, x_namedMethods, x_liveMethods, 1, 0, 0, x_traceCount, x_isInterfaceClass, x_chainOf, x_interfacesOf, x_ancestorsOf, x_homeOf, x_formOf, x_nameOf, x_lengthOf, x_opOf, x_classOf, x_numberOf, x_sourceMethod, x_sourceLine, x_callLine, x_ruleKind, x_ruleClasses, x_ruleNames, x_newNumber, x_familyOf, x_sightOf, upd x_frameRow 0 (nI (30 * w + m)), upd x_frameLine 0 0, upd x_frameHeld 0 (-1), x_outInts, x_traceMethod, x_traceLine) (nI w) := by
  have h30 := T.2.2.1.1
  have hl6 : ∀ m, m < M → y_length m = nI (hq_t (y_length m)) ∧ hq_t (y_length m) ≤ 6 := fun m hm => ⟨(tp_len T hm).2.1, (tp_len T hm).2.2⟩
  unfold wpX_doSteps
  dsimp only
  refine ⟨201, ?_⟩
  refine xs_l (GB := fun ypost => ∃ n, wY_run_162 ypost (nI w) n (nI C) (nI M) y_rules y_place y_named y_made y_namedMethods y_live y_built (nI 1) (nI 0) (nI 0) (-1) x_isInterfaceClass y_isAbstract y_parent x_ancestorsOf x_interfacesOf y_many x_homeOf y_name y_length y_op y_first y_second x_ruleKind x_ruleClasses x_ruleNames y_inlined y_number y_newName y_family (upd y_vMethod 0 (nI m)) (upd y_vLine 0 0) (upd y_vHeld 0 (-1)) x_outInts) T hw sm HY hl6 K 200 0 201 0 1 1 (upd x_frameRow 0 (nI (30 * w + m))) (upd x_frameLine 0 0) (upd x_frameHeld 0 (-1)) (upd y_vMethod 0 (nI m)) (upd y_vLine 0 0) (upd y_vHeld 0 (-1)) x_outInts (by omega) (by omega) (by omega) (Or.inl ⟨rfl, by omega, fun k hk => by omega, fun k hk => ?_⟩) (fun yp h => h)
  have : k = 0 := by omega
  subst this
  exact ⟨m, 0, ⟨mM, mF, pk_us, pk_us, pk_us, pk_us, by rw [pk_us, pk_us], Or.inl pk_us⟩, by omega⟩
theorem ft_i (T : tp_p C M R x_isInterfaceClass x_ancestorsOf x_interfacesOf x_chainOf y_parent y_many x_homeOf x_ruleKind x_ruleClasses x_ruleNames x_formOf x_nameOf x_lengthOf y_isAbstract y_name y_length x_opOf x_classOf x_numberOf x_sourceMethod x_sourceLine x_callLine y_op y_first y_second) {n : Int32} {h m : Nat} (hC : h < C) (ef : ft_v M w x_ancestorsOf x_chainOf x_homeOf x_formOf x_nameOf n h = some m) : m < M ∧ x_formOf (30 * w + m) = 2 := by
  unfold ft_v at ef
  cases e : fd_v M x_ancestorsOf x_chainOf x_homeOf (fun m => decide (¬ x_formOf (30 * w + m) = 0) && decide (x_nameOf (30 * w + m) = n)) h with
  | none => rw [e] at ef; exact absurd ef (by simp)
  | some g =>
    rw [e] at ef
    have ef : (if x_formOf (30 * w + g) = 2 then some g else none) = some m := ef
    by_cases q : x_formOf (30 * w + g) = 2
    · rw [if_pos q] at ef
      have : g = m := by simpa using ef
      subst this
      exact ⟨(fd_s T.1 hC e).1, q⟩
    · rw [if_neg q] at ef; exact absurd ef (by simp)
theorem x52_v (T : tp_p C M R x_isInterfaceClass x_ancestorsOf x_interfacesOf x_chainOf y_parent y_many x_homeOf x_ruleKind x_ruleClasses x_ruleNames x_formOf x_nameOf x_lengthOf y_isAbstract y_name y_length x_opOf x_classOf x_numberOf x_sourceMethod x_sourceLine x_callLine y_op y_first y_second) (hw : w < 2) (hM : x_methodCount = nI M) {post : Int32 → Prop} {n : Int32} {h : Nat} (hC : h < C) (hp : post (oI (ft_v M w x_ancestorsOf x_chainOf x_homeOf x_formOf x_nameOf n h))) : wX_startMethod_52 post (nI w) n (nI h) x_classCount x_methodCount x_ruleCount x_isBuilt x_faultPlace x_namedClasses x_madeClasses x_namedMethods x_liveMethods x_depth x_stepCount x_outCount x_traceCount x_isInterfaceClass x_chainOf x_interfacesOf x_ancestorsOf x_homeOf x_formOf x_nameOf x_lengthOf x_opOf x_classOf x_numberOf x_sourceMethod x_sourceLine x_callLine x_ruleKind x_ruleClasses x_ruleNames x_newNumber x_familyOf x_sightOf x_frameRow x_frameLine x_frameHeld x_outInts x_traceMethod x_traceLine := by
  have h30 := T.2.2.1.1
  have h10 := T.1.1
  unfold wX_startMethod_52
  refine br_f (oI_n (by omega)) (xf_v (w := w) T.1.1 T.2.2.1 hw hC (fun i => (T.1.2 h hC).2.2.2.1 i) (fun m => decide (¬ x_formOf (30 * w + m) = 0) && decide (x_nameOf (30 * w + m) = n)) (fun m hm => by rw [bb_a, decide_eq_true_eq, decide_eq_true_eq]) hM ?_)
  unfold ft_v at hp
  cases e : fd_v M x_ancestorsOf x_chainOf x_homeOf (fun m => decide (¬ x_formOf (30 * w + m) = 0) && decide (x_nameOf (30 * w + m) = n)) h with
  | none => rw [e] at hp; exact br_t rfl hp
  | some g =>
    rw [e] at hp
    have hp : post (oI (if x_formOf (30 * w + g) = 2 then some g else none)) := hp
    have gM := (fd_s T.1 hC e).1
    rw [oI_s, nI_a30, nI_c (show 30 * w + g < 10000 by omega)]
    refine br_f (oI_n (by omega)) ⟨vp_in_nI (by omega) (by decide), br_c (fun z => ?_) (fun z => ?_)⟩
    · rw [if_pos z] at hp; exact hp
    · rw [if_neg z] at hp; exact hp
theorem x52_n {post : Int32 → Prop} {x1 n : Int32} (hp : post (-1)) : wX_startMethod_52 post x1 n (-1) x_classCount x_methodCount x_ruleCount x_isBuilt x_faultPlace x_namedClasses x_madeClasses x_namedMethods x_liveMethods x_depth x_stepCount x_outCount x_traceCount x_isInterfaceClass x_chainOf x_interfacesOf x_ancestorsOf x_homeOf x_formOf x_nameOf x_lengthOf x_opOf x_classOf x_numberOf x_sourceMethod x_sourceLine x_callLine x_ruleKind x_ruleClasses x_ruleNames x_newNumber x_familyOf x_sightOf x_frameRow x_frameLine x_frameHeld x_outInts x_traceMethod x_traceLine := by
  unfold wX_startMethod_52
  exact br_t rfl hp
theorem y118_n {Q : Int32 → SY → Prop} {x1 : Int32} (hp : Q (-1) (y_classes, y_methods, y_rules, y_place, y_named, y_made, y_namedMethods, y_live, y_built, y_depth, y_steps, y_outs, y_ending, y_isInterface, y_isAbstract, y_parent, y_ancestors, y_own, y_many, y_home, y_name, y_length, y_op, y_first, y_second, y_ruleKind, y_ruleClasses, y_ruleNames, y_inlined, y_number, y_newName, y_family, y_vMethod, y_vLine, y_vHeld, y_put)) : wY_run_97 Q x1 y_classes y_methods y_rules y_place y_named y_made y_namedMethods y_live y_built y_depth y_steps y_outs y_ending y_isInterface y_isAbstract y_parent y_ancestors y_own y_many y_home y_name y_length y_op y_first y_second y_ruleKind y_ruleClasses y_ruleNames y_inlined y_number y_newName y_family y_vMethod y_vLine y_vHeld y_put := by
  unfold wY_run_97 wY_run_118
  exact yn_b (n := 2) (by decide) (fun _ _ _ => br_f (by decide) hp) (fun _ => hp)
theorem y118_v {ypost : Int32 → SY → Prop} (hw : w < 2) {f : Option Nat} (hf : ∀ g, f = some g → g < 30) (k0 : f = none → ypost (-1) (nI C, nI M, y_rules, y_place, y_named, y_made, y_namedMethods, y_live, y_built, y_depth, y_steps, y_outs, y_ending, x_isInterfaceClass, y_isAbstract, y_parent, x_ancestorsOf, x_interfacesOf, y_many, x_homeOf, y_name, y_length, y_op, y_first, y_second, x_ruleKind, x_ruleClasses, x_ruleNames, y_inlined, y_number, y_newName, y_family, y_vMethod, y_vLine, y_vHeld, x_outInts)) (k1 : ∀ m, f = some m → ∃ n, wY_run_162 ypost (nI w) n (nI C) (nI M) y_rules y_place y_named y_made y_namedMethods y_live y_built (nI 1) (nI 0) (nI 0) (-1) x_isInterfaceClass y_isAbstract y_parent x_ancestorsOf x_interfacesOf y_many x_homeOf y_name y_length y_op y_first y_second x_ruleKind x_ruleClasses x_ruleNames y_inlined y_number y_newName y_family (upd y_vMethod 0 (nI m)) (upd y_vLine 0 0) (upd y_vHeld 0 (-1)) x_outInts) : wY_run_118 ypost (nI w) (oI f) (nI C) (nI M) y_rules y_place y_named y_made y_namedMethods y_live y_built y_depth y_steps y_outs y_ending x_isInterfaceClass y_isAbstract y_parent x_ancestorsOf x_interfacesOf y_many x_homeOf y_name y_length y_op y_first y_second x_ruleKind x_ruleClasses x_ruleNames y_inlined y_number y_newName y_family y_vMethod y_vLine y_vHeld x_outInts := by
  unfold wY_run_118
  refine yn_b (n := 2) (by decide) (fun _ _ _ => ?_) (fun z => absurd z (fun y => y.elim (nI_pos (by omega)) (nI_ge (b := 2) hw (by decide))))
  cases f with
  | none => exact br_f (by decide) (k0 rfl)
  | some g =>
    have g30 := hf g rfl
    refine br_t (nI_pos' (by omega)) ?_
    unfold wpY_begin
    dsimp only
    refine br_f (by decide) ⟨vp_in_nI (n := 0) (by decide) (by decide), nm_e ⟨vp_in_nI (n := 0) (by decide) (by decide), nm_e ⟨vp_in_nI (n := 0) (by decide) (by decide), nm_e (nm_e ?_)⟩⟩⟩
    exact k1 g rfl
end
theorem i_vc_run {k : Nat} {u : SX} {v : SY} (I : i_Rel k u v) (hk : k + 5 ≤ 2560) (v1 : Int32) (v2 : Int32) (v3 : Int32) : wpX_run (fun r u' => wpY_run (fun r' v' => r' = r ∧ i_Rel (k + 5) u' v') v v1 v2 v3) u v1 v2 v3 := by
  obtain ⟨x_classCount, x_methodCount, x_ruleCount, x_isBuilt, x_faultPlace, x_namedClasses, x_madeClasses, x_namedMethods, x_liveMethods, x_depth, x_stepCount, x_outCount, x_traceCount, x_isInterfaceClass, x_chainOf, x_interfacesOf, x_ancestorsOf, x_homeOf, x_formOf, x_nameOf, x_lengthOf, x_opOf, x_classOf, x_numberOf, x_sourceMethod, x_sourceLine, x_callLine, x_ruleKind, x_ruleClasses, x_ruleNames, x_newNumber, x_familyOf, x_sightOf, x_frameRow, x_frameLine, x_frameHeld, x_outInts, x_traceMethod, x_traceLine⟩ := u; obtain ⟨y_classes, y_methods, y_rules, y_place, y_named, y_made, y_namedMethods, y_live, y_built, y_depth, y_steps, y_outs, y_ending, y_isInterface, y_isAbstract, y_parent, y_ancestors, y_own, y_many, y_home, y_name, y_length, y_op, y_first, y_second, y_ruleKind, y_ruleClasses, y_ruleNames, y_inlined, y_number, y_newName, y_family, y_vMethod, y_vLine, y_vHeld, y_put⟩ := v; have II := I; obtain ⟨C, M, R, t, o, rfl, rfl, rfl, rfl, rfl, rfl, rfl, rfl, rfl, rfl, rfl, rfl, rfl, rfl, rfl, rfl, rfl, rfl, rfl, rfl, rfl, ho, ht, hp, T, hb⟩ := (I : rl_p x_classCount x_methodCount x_ruleCount x_isBuilt x_faultPlace x_namedClasses x_madeClasses x_namedMethods x_liveMethods x_depth x_stepCount x_outCount x_traceCount x_isInterfaceClass x_chainOf x_interfacesOf x_ancestorsOf x_homeOf x_formOf x_nameOf x_lengthOf x_opOf x_classOf x_numberOf x_sourceMethod x_sourceLine x_callLine x_ruleKind x_ruleClasses x_ruleNames x_newNumber x_familyOf x_sightOf x_frameRow x_frameLine x_frameHeld x_outInts x_traceMethod x_traceLine y_classes y_methods y_rules y_place y_named y_made y_namedMethods y_live y_built y_depth y_steps y_outs y_ending y_isInterface y_isAbstract y_parent y_ancestors y_own y_many y_home y_name y_length y_op y_first y_second y_ruleKind y_ruleClasses y_ruleNames y_inlined y_number y_newName y_family y_vMethod y_vLine y_vHeld y_put)
  have h30 := T.2.2.1.1
  have h10 := T.1.1
  unfold wpX_run
  dsimp only
  by_cases z0 : v1 = 0
  · subst z0
    unfold wpX_startMethod
    dsimp only
    refine br_t rfl (xp_v T rfl rfl ?_)
    cases NF : ff_v C M x_isInterfaceClass x_ancestorsOf x_chainOf x_homeOf y_isAbstract y_name y_length y_op y_first y_second with
    | some q =>
      obtain ⟨qM, qb, _⟩ := sc_fe NF
      have nz : ¬ ff_r (some q) = -1 := oI_n (by omega)
      refine br_f nz ?_
      unfold wX_startMethod_33
      refine br_f (by decide) (x52_n (br_t rfl ?_))
      unfold wpY_run
      dsimp only
      refine br_t rfl (yx_v T rfl rfl (fun n => absurd (NF.symm.trans n) (by simp)) (fun q' NF' => ?_))
      have : q = q' := by simpa using NF.symm.trans NF'
      subst this
      have nz2 : ¬ fl_v C x_isInterfaceClass y_isAbstract (fo_v M x_ancestorsOf x_chainOf x_homeOf y_name) (y_op q) (y_first q) (y_second q) = 0 := by
        obtain ⟨m, i, i6, rfl⟩ : ∃ m i, i < 6 ∧ q = 6 * m + i := ⟨q / 6, q % 6, by omega, by omega⟩
        exact ((fb_i i6).mp qb).2
      dsimp only
      unfold wY_run_29
      refine br_t rfl (yn_b (by omega) (fun _ _ _ => ?_) (fun _ => ?_))
      · unfold wY_run_79
        exact br_f nz2 (y118_n ⟨rfl, II⟩)
      · unfold wY_run_79
        exact br_f nz2 (y118_n ⟨rfl, II⟩)
    | none =>
      refine br_t rfl ?_
      have yr : ∀ {Q : Int32 → SY → Prop}, wY_run_29 Q 0 v2 v3 x_faultPlace 0 (nI C) (nI M) (nI R) x_faultPlace y_named y_made y_namedMethods y_live x_isBuilt (nI t) x_stepCount (nI o) y_ending x_isInterfaceClass y_isAbstract y_parent x_ancestorsOf x_interfacesOf y_many x_homeOf y_name y_length y_op y_first y_second x_ruleKind x_ruleClasses x_ruleNames y_inlined y_number y_newName y_family y_vMethod y_vLine y_vHeld x_outInts → wpY_run Q (nI C, nI M, nI R, x_faultPlace, y_named, y_made, y_namedMethods, y_live, x_isBuilt, nI t, x_stepCount, nI o, y_ending, x_isInterfaceClass, y_isAbstract, y_parent, x_ancestorsOf, x_interfacesOf, y_many, x_homeOf, y_name, y_length, y_op, y_first, y_second, x_ruleKind, x_ruleClasses, x_ruleNames, y_inlined, y_number, y_newName, y_family, y_vMethod, y_vLine, y_vHeld, x_outInts) 0 v2 v3 := fun h => by
        unfold wpY_run
        dsimp only
        exact br_t rfl (yx_v T rfl rfl (fun _ => h) (fun q' NF' => absurd (NF.symm.trans NF') (by simp)))
      have bad : (v2 < 0 ∨ nI C ≤ v2) → wpY_run (fun r' v' => r' = (-1) ∧ i_Rel (k + 5) (nI C, nI M, nI R, x_isBuilt, x_faultPlace, x_namedClasses, x_madeClasses, x_namedMethods, x_liveMethods, x_depth, x_stepCount, nI o, nI t, x_isInterfaceClass, x_chainOf, x_interfacesOf, x_ancestorsOf, x_homeOf, x_formOf, x_nameOf, x_lengthOf, x_opOf, x_classOf, x_numberOf, x_sourceMethod, x_sourceLine, x_callLine, x_ruleKind, x_ruleClasses, x_ruleNames, x_newNumber, x_familyOf, x_sightOf, x_frameRow, x_frameLine, x_frameHeld, x_outInts, x_traceMethod, x_traceLine) v') (nI C, nI M, nI R, x_faultPlace, y_named, y_made, y_namedMethods, y_live, x_isBuilt, nI t, x_stepCount, nI o, y_ending, x_isInterfaceClass, y_isAbstract, y_parent, x_ancestorsOf, x_interfacesOf, y_many, x_homeOf, y_name, y_length, y_op, y_first, y_second, x_ruleKind, x_ruleClasses, x_ruleNames, y_inlined, y_number, y_newName, y_family, y_vMethod, y_vLine, y_vHeld, x_outInts) 0 v2 v3 := fun z => yr (by
        unfold wY_run_29
        refine br_t rfl (yn_b (by omega) (fun j hj e => ?_) (fun _ => ?_))
        · rw [e] at z; exact absurd z (fun y => y.elim (nI_pos (by omega)) (nI_ge hj (by omega)))
        · unfold wY_run_79
          exact br_t rfl (br_f (by decide) (y118_n ⟨rfl, II⟩)))
      unfold wpX_isClass
      dsimp only
      rcases pk_ix v2 (n := C) (by omega) with z | z | ⟨h, hC, rfl⟩
      · refine br_t z (br_0 ?_)
        unfold wX_startMethod_28
        exact x52_n (br_t rfl (bad (Or.inl z)))
      · refine br_f (ix_0 (by omega) z) (br_t z (br_0 ?_))
        unfold wX_startMethod_28
        exact x52_n (br_t rfl (bad (Or.inr z)))
      · refine br_f (nI_pos (by omega)) (br_f (nI_ge hC (by omega)) (br_1 ?_))
        unfold wX_startMethod_28
        have yf0 : ∀ {Q : Int32 → SY → Prop}, wY_run_118 Q (nI 0) (oI (ft_v M 0 x_ancestorsOf x_chainOf x_homeOf x_formOf x_nameOf v3 h)) (nI C) (nI M) (nI R) x_faultPlace y_named y_made y_namedMethods y_live x_isBuilt (nI t) x_stepCount (nI o) y_ending x_isInterfaceClass y_isAbstract y_parent x_ancestorsOf x_interfacesOf y_many x_homeOf y_name y_length y_op y_first y_second x_ruleKind x_ruleClasses x_ruleNames y_inlined y_number y_newName y_family y_vMethod y_vLine y_vHeld x_outInts → wpY_run Q (nI C, nI M, nI R, x_faultPlace, y_named, y_made, y_namedMethods, y_live, x_isBuilt, nI t, x_stepCount, nI o, y_ending, x_isInterfaceClass, y_isAbstract, y_parent, x_ancestorsOf, x_interfacesOf, y_many, x_homeOf, y_name, y_length, y_op, y_first, y_second, x_ruleKind, x_ruleClasses, x_ruleNames, y_inlined, y_number, y_newName, y_family, y_vMethod, y_vLine, y_vHeld, x_outInts) 0 (nI h) v3 := fun hh => yr (by
          unfold wY_run_29
          refine br_t rfl (yn_b (by omega) (fun _ _ _ => ?_) (fun z => absurd z (fun y => y.elim (nI_pos (by omega)) (nI_ge hC (by omega)))))
          unfold wY_run_79
          refine br_t rfl (br_t (nI_pos' (by omega)) (br_f (by decide) ?_))
          unfold wY_run_112
          exact yfd_0 T hC hh)
        refine x52_v (w := 0) T (by decide) rfl hC ?_
        cases ef : ft_v M 0 x_ancestorsOf x_chainOf x_homeOf x_formOf x_nameOf v3 h with
        | none =>
          refine br_t rfl (yf0 ?_)
          rw [ef]
          exact y118_v (w := 0) (by decide) (fun g e => absurd e (by simp)) (fun _ => ⟨rfl, II⟩) (fun m e => absurd e (by simp))
        | some m =>
          have mm := ft_i (w := 0) T hC ef
          have hl6 : ∀ m, m < M → y_length m = nI (hq_t (y_length m)) ∧ hq_t (y_length m) ≤ 6 := fun m hm => ⟨(tp_len T hm).2.1, (tp_len T hm).2.2⟩
          have sm := sm_0 (y_inlined := y_inlined) T NF
          refine br_f (oI_n (by have := mm.1; omega)) ?_
          have e30 : (0 : Int32) * 30 + oI (some m) = nI (30 * 0 + m) := nI_a30 0 m
          rw [e30]
          refine nm_e (nm_e (nm_e ?_))
          refine rn_b (w := 0) (y_rules := nI R) (y_place := x_faultPlace) (y_named := y_named) (y_made := y_made) (y_namedMethods := y_namedMethods) (y_live := y_live) (y_built := x_isBuilt) (y_inlined := y_inlined) (y_number := y_number) (y_newName := y_newName) (y_family := y_family) (y_vMethod := y_vMethod) (y_vLine := y_vLine) (y_vHeld := y_vHeld) T (by decide) sm (hy_0 T rfl rfl) mm.1 mm.2 (fun r s o' d e fr fl fh vm vl vh oi tq ho' hy => ?_)
          dsimp only
          refine xt_v (w := 0) (by decide) h30 hl6 sm tq (fun tm tl e8 htr => ?_)
          dsimp only
          refine yf0 ?_
          rw [ef]
          refine y118_v (w := 0) (by decide) (fun g e => ?_) (fun e => absurd e (by simp)) (fun m' e => ?_)
          · have : m = g := by simpa using e
            have := mm.1
            omega
          · have : m = m' := by simpa using e
            subst this
            exact hy _ ⟨rfl, rl_i (k + 5) ho' htr hp T hb⟩
  · by_cases z1 : v1 = 1
    · subst z1
      unfold wpX_startMethod
      dsimp only
      refine br_f (by decide) ?_
      unfold wX_startMethod_33
      refine br_t rfl (br_c (fun b => x52_n (br_t rfl ?_)) (fun b => ?_))
      · unfold wpY_run
        dsimp only
        refine br_f (by decide) (br_t b ?_)
        unfold wY_run_29
        refine br_f (by decide) (br_t rfl (br_t b ?_))
        unfold wY_run_78 wY_run_79
        exact br_f (by decide) (y118_n ⟨rfl, II⟩)
      · obtain ⟨⟨m1, m2, m3, m4⟩, b1, d1, kept, inl, NF, hI, hin, ml, xb, yn, yf, yw⟩ := hb b
        have yr : ∀ {Q : Int32 → SY → Prop}, ((v2 < 0 → wY_run_78 Q 1 v3 x_faultPlace 0 (nI C) (nI M) (nI R) x_faultPlace y_named y_made y_namedMethods y_live x_isBuilt (nI t) x_stepCount (nI o) y_ending x_isInterfaceClass y_isAbstract y_parent x_ancestorsOf x_interfacesOf y_many x_homeOf y_name y_length y_op y_first y_second x_ruleKind x_ruleClasses x_ruleNames y_inlined y_number y_newName y_family y_vMethod y_vLine y_vHeld x_outInts) ∧ (¬ v2 < 0 → wpY_classOf (fun r => wY_run_79 Q 1 v3 x_faultPlace 0 r (nI C) (nI M) (nI R) x_faultPlace y_named y_made y_namedMethods y_live x_isBuilt (nI t) x_stepCount (nI o) y_ending x_isInterfaceClass y_isAbstract y_parent x_ancestorsOf x_interfacesOf y_many x_homeOf y_name y_length y_op y_first y_second x_ruleKind x_ruleClasses x_ruleNames y_inlined y_number y_newName y_family y_vMethod y_vLine y_vHeld x_outInts) (nI C, nI M, nI R, x_faultPlace, y_named, y_made, y_namedMethods, y_live, x_isBuilt, nI t, x_stepCount, nI o, y_ending, x_isInterfaceClass, y_isAbstract, y_parent, x_ancestorsOf, x_interfacesOf, y_many, x_homeOf, y_name, y_length, y_op, y_first, y_second, x_ruleKind, x_ruleClasses, x_ruleNames, y_inlined, y_number, y_newName, y_family, y_vMethod, y_vLine, y_vHeld, x_outInts) v2)) → wpY_run Q (nI C, nI M, nI R, x_faultPlace, y_named, y_made, y_namedMethods, y_live, x_isBuilt, nI t, x_stepCount, nI o, y_ending, x_isInterfaceClass, y_isAbstract, y_parent, x_ancestorsOf, x_interfacesOf, y_many, x_homeOf, y_name, y_length, y_op, y_first, y_second, x_ruleKind, x_ruleClasses, x_ruleNames, y_inlined, y_number, y_newName, y_family, y_vMethod, y_vLine, y_vHeld, x_outInts) 1 v2 v3 := fun h => by
          unfold wpY_run
          dsimp only
          refine br_f (by decide) (br_f b ?_)
          unfold wY_run_29
          exact br_f (by decide) (br_t rfl (br_f b h))
        refine xcn_v h10 rfl (fun z => x52_n (br_t rfl (yr ?_))) (fun z => ?_)
        · refine br_t z ?_
          unfold wY_run_78 wY_run_79
          exact br_t rfl (br_f (by decide) (y118_n ⟨rfl, II⟩))
        · have ycl : ∀ {Q : Int32 → SY → Prop}, wY_run_79 Q 1 v3 x_faultPlace 0 (oI (sc_f (fun c => decide (x_newNumber c = v2)) C)) (nI C) (nI M) (nI R) x_faultPlace y_named y_made y_namedMethods y_live x_isBuilt (nI t) x_stepCount (nI o) y_ending x_isInterfaceClass y_isAbstract y_parent x_ancestorsOf x_interfacesOf y_many x_homeOf y_name y_length y_op y_first y_second x_ruleKind x_ruleClasses x_ruleNames y_inlined y_number y_newName y_family y_vMethod y_vLine y_vHeld x_outInts → wpY_run Q (nI C, nI M, nI R, x_faultPlace, y_named, y_made, y_namedMethods, y_live, x_isBuilt, nI t, x_stepCount, nI o, y_ending, x_isInterfaceClass, y_isAbstract, y_parent, x_ancestorsOf, x_interfacesOf, y_many, x_homeOf, y_name, y_length, y_op, y_first, y_second, x_ruleKind, x_ruleClasses, x_ruleNames, y_inlined, y_number, y_newName, y_family, y_vMethod, y_vLine, y_vHeld, x_outInts) 1 v2 v3 := fun h => by
            refine yr (br_f z (ycn_v h10 rfl ?_))
            have e : sc_f (fun c => bt y_named c && decide (y_number c = v2)) C = sc_f (fun c => decide (x_newNumber c = v2)) C := sc_fc (fun c hc => by
              show (bt y_named c && decide (y_number c = v2)) = decide (x_newNumber c = v2)
              rw [xb.2.2.2.2.1 c hc, yn c hc, ← m1]
              cases hn : bt x_namedClasses c
              · have e1 : nu_v kept x_namedClasses c = -1 := by
                  unfold nu_v
                  rw [if_neg (fun q => by rw [((xb.2.2.2.2.2 c).mp q).1] at hn; exact absurd hn (by decide)), if_neg (by rw [hn]; decide)]
                rw [e1, Bool.false_and, decide_eq_false (fun q => z (by rw [← q]; decide))]
              · rw [Bool.true_and])
            rw [e]
            exact h
          cases ec : sc_f (fun c => decide (x_newNumber c = v2)) C with
          | none =>
            refine x52_n (br_t rfl (ycl ?_))
            rw [ec]
            unfold wY_run_79
            exact br_t rfl (br_f (by decide) (y118_n ⟨rfl, II⟩))
          | some c =>
            have cC := (sc_fe ec).1
            have yf0 : ∀ {Q : Int32 → SY → Prop}, wY_run_118 Q (nI 1) (oI (ft_v M 1 x_ancestorsOf x_chainOf x_homeOf x_formOf x_nameOf v3 c)) (nI C) (nI M) (nI R) x_faultPlace y_named y_made y_namedMethods y_live x_isBuilt (nI t) x_stepCount (nI o) y_ending x_isInterfaceClass y_isAbstract y_parent x_ancestorsOf x_interfacesOf y_many x_homeOf y_name y_length y_op y_first y_second x_ruleKind x_ruleClasses x_ruleNames y_inlined y_number y_newName y_family y_vMethod y_vLine y_vHeld x_outInts → wpY_run Q (nI C, nI M, nI R, x_faultPlace, y_named, y_made, y_namedMethods, y_live, x_isBuilt, nI t, x_stepCount, nI o, y_ending, x_isInterfaceClass, y_isAbstract, y_parent, x_ancestorsOf, x_interfacesOf, y_many, x_homeOf, y_name, y_length, y_op, y_first, y_second, x_ruleKind, x_ruleClasses, x_ruleNames, y_inlined, y_number, y_newName, y_family, y_vMethod, y_vLine, y_vHeld, x_outInts) 1 v2 v3 := fun hh => ycl (by
              rw [ec, oI_s]
              unfold wY_run_79
              refine br_t rfl (br_t (nI_pos' (by omega)) (br_t rfl ?_))
              unfold wY_run_112
              subst m1 m2 m3 m4
              exact yfd_1 T xb yf yw ml cC hh)
            refine x52_v (w := 1) T (by decide) rfl cC ?_
            cases ef : ft_v M 1 x_ancestorsOf x_chainOf x_homeOf x_formOf x_nameOf v3 c with
            | none =>
              refine br_t rfl (yf0 ?_)
              rw [ef]
              exact y118_v (w := 1) (by decide) (fun g e => absurd e (by simp)) (fun _ => ⟨rfl, II⟩) (fun m e => absurd e (by simp))
            | some m =>
              have mm := ft_i (w := 1) T cC ef
              have hl6 : ∀ m, m < M → y_length m = nI (hq_t (y_length m)) ∧ hq_t (y_length m) ≤ 6 := fun m hm => ⟨(tp_len T hm).2.1, (tp_len T hm).2.2⟩
              have sm := sm_1 T NF hI hin xb
              refine br_f (oI_n (by have := mm.1; omega)) ?_
              have e30 : (1 : Int32) * 30 + oI (some m) = nI (30 * 1 + m) := nI_a30 1 m
              rw [e30]
              refine nm_e (nm_e (nm_e ?_))
              refine rn_b (w := 1) (y_rules := nI R) (y_place := x_faultPlace) (y_named := y_named) (y_made := y_made) (y_namedMethods := y_namedMethods) (y_live := y_live) (y_built := x_isBuilt) (y_inlined := y_inlined) (y_number := y_number) (y_newName := y_newName) (y_family := y_family) (y_vMethod := y_vMethod) (y_vLine := y_vLine) (y_vHeld := y_vHeld) T (by decide) sm (hy_1 T NF rfl hin xb yf yw ml m1 m2 m3 m4) mm.1 mm.2 (fun r s o' d e fr fl fh vm vl vh oi tq ho' hy => ?_)
              dsimp only
              refine xt_v (w := 1) (by decide) h30 hl6 sm tq (fun tm tl e8 htr => ?_)
              dsimp only
              refine yf0 ?_
              rw [ef]
              refine y118_v (w := 1) (by decide) (fun g e => ?_) (fun e => absurd e (by simp)) (fun m' e => ?_)
              · have : m = g := by simpa using e
                have := mm.1
                omega
              · have : m = m' := by simpa using e
                subst this
                exact hy _ ⟨rfl, rl_i (k + 5) ho' htr hp T hb⟩
    · unfold wpX_startMethod
      dsimp only
      refine br_f z0 ?_
      unfold wX_startMethod_33
      refine br_f z1 (x52_n (br_t rfl ?_))
      unfold wpY_run
      dsimp only
      refine br_f z0 (br_c (fun b => ?_) (fun b => ?_))
      · unfold wY_run_29
        refine br_f z0 (br_f z1 ?_)
        unfold wY_run_78 wY_run_79
        exact br_f (by decide) (y118_n ⟨rfl, II⟩)
      · unfold wY_run_29
        refine br_f z0 (br_f z1 ?_)
        unfold wY_run_78 wY_run_79
        exact br_t rfl (br_f (by decide) (y118_n ⟨rfl, II⟩))
