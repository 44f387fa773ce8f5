/-! ===== line ===== -/
section
variable {x_classCount x_methodCount x_ruleCount x_isBuilt x_faultPlace x_namedClasses x_madeClasses x_namedMethods x_liveMethods x_depth x_stepCount x_outCount x_traceCount : Int32} {x_isInterfaceClass x_chainOf x_interfacesOf x_ancestorsOf x_homeOf x_formOf x_nameOf x_lengthOf x_opOf x_classOf x_numberOf x_sourceMethod x_sourceLine x_callLine x_ruleKind x_ruleClasses x_ruleNames x_newNumber x_familyOf x_sightOf x_frameRow x_frameLine x_frameHeld x_outInts x_traceMethod x_traceLine : Nat → Int32} {y_classes y_methods y_rules y_place y_named y_made y_namedMethods y_live y_built y_depth y_steps y_outs y_ending : Int32} {y_isInterface y_isAbstract y_parent y_ancestors y_own y_many y_home y_name y_length y_op y_first y_second y_ruleKind y_ruleClasses y_ruleNames y_inlined y_number y_newName y_family y_vMethod y_vLine y_vHeld y_put : Nat → Int32}
theorem xl_bad {post : Int32 → Prop} {x2 x3 x4 : Int32} (hp : post (-1)) : wX_line_16 post x2 x3 x4 (-1) x_classCount x_methodCount x_ruleCount x_isBuilt x_faultPlace x_namedClasses x_madeClasses x_namedMethods x_liveMethods x_depth x_stepCount x_outCount x_traceCount x_isInterfaceClass x_chainOf x_interfacesOf x_ancestorsOf x_homeOf x_formOf x_nameOf x_lengthOf x_opOf x_classOf x_numberOf x_sourceMethod x_sourceLine x_callLine x_ruleKind x_ruleClasses x_ruleNames x_newNumber x_familyOf x_sightOf x_frameRow x_frameLine x_frameHeld x_outInts x_traceMethod x_traceLine := by
  unfold wX_line_16
  exact br_t rfl hp
theorem yl_bad {post : Int32 → Prop} {x2 x3 x4 : Int32} (hp : post (-1)) : wY_line_20 post x2 x3 x4 (-1) y_classes y_methods y_rules y_place y_named y_made y_namedMethods y_live y_built y_depth y_steps y_outs y_ending y_isInterface y_isAbstract y_parent y_ancestors y_own y_many y_home y_name y_length y_op y_first y_second y_ruleKind y_ruleClasses y_ruleNames y_inlined y_number y_newName y_family y_vMethod y_vLine y_vHeld y_put := by
  unfold wY_line_20 wY_line_38
  exact br_f (by decide) (br_t (by decide) hp)
/-- the value of a line in X -/
theorem xl_w {post : Int32 → Prop} {p w : Nat} (hp : p < 1440) (w6 : w < 6) (hP : x_classOf p = -1 ∨ ∃ q, q < 10 ∧ x_classOf p = nI q) (h : post (xv_v x_opOf x_classOf x_numberOf x_sourceMethod x_sourceLine x_callLine x_newNumber p w)) :
    ((nI w < 0 → (post (-1))) ∧ (¬ nI w < 0 → (((5 < nI w → (post (-1))) ∧ (¬ 5 < nI w → (((nI w = 0 → (vp_in (nI p) 1440 ∧ (post (x_opOf p)))) ∧ (¬ nI w = 0 → (((nI w = 1 → (vp_in (nI p) 1440 ∧ ((((x_classOf p) = (-1) → (post (-1))) ∧ (¬ (x_classOf p) = (-1) → (vp_in (nI p) 1440 ∧ (vp_in (x_classOf p) 10 ∧ (post (x_newNumber (x_classOf p).toNatClampNeg))))))))) ∧ (¬ nI w = 1 → (((nI w = 2 → (vp_in (nI p) 1440 ∧ (post (x_numberOf p)))) ∧ (¬ nI w = 2 → (((nI w = 3 → (vp_in (nI p) 1440 ∧ (post (x_sourceMethod p)))) ∧ (¬ nI w = 3 → (((nI w = 4 → (vp_in (nI p) 1440 ∧ (post (x_sourceLine p)))) ∧ (¬ nI w = 4 → (((nI w = 5 → (vp_in (nI p) 1440 ∧ (post (x_callLine p)))) ∧ (¬ nI w = 5 → (True)))))))))))))))))))))))) := by
  have ip : vp_in (nI p) 1440 := vp_in_nI hp (by decide)
  refine br_f (nI_pos (by omega)) ?_
  rcases (by omega : w = 0 ∨ w = 1 ∨ w = 2 ∨ w = 3 ∨ w = 4 ∨ w = 5) with q | q | q | q | q | q
  · subst q; exact br_f (by decide) (br_t rfl ⟨ip, h⟩)
  · subst q
    refine br_f (by decide) (br_f (by decide) (br_t rfl ⟨ip, ?_⟩))
    have h : post (if x_classOf p = -1 then -1 else x_newNumber (hq_t (x_classOf p))) := h
    rcases hP with e | ⟨q, q10, e⟩
    · rw [if_pos e] at h; exact br_t e h
    · have ne : ¬ x_classOf p = -1 := by rw [e]; exact oI_n (by omega)
      rw [if_neg ne] at h
      exact br_f ne ⟨ip, by rw [e]; exact vp_in_nI q10 (by decide), h⟩
  · subst q; exact br_f (by decide) (br_f (by decide) (br_f (by decide) (br_t rfl ⟨ip, h⟩)))
  · subst q; exact br_f (by decide) (br_f (by decide) (br_f (by decide) (br_f (by decide) (br_t rfl ⟨ip, h⟩))))
  · subst q; exact br_f (by decide) (br_f (by decide) (br_f (by decide) (br_f (by decide) (br_f (by decide) (br_t rfl ⟨ip, h⟩)))))
  · subst q; exact br_f (by decide) (br_f (by decide) (br_f (by decide) (br_f (by decide) (br_f (by decide) (br_f (by decide) (br_t rfl ⟨ip, h⟩))))))
end
theorem i_vc_line {k : Nat} {u : SX} {v : SY} (I : i_Rel k u v) (hk : k + 5 ≤ 2560) (v1 : Int32) (v2 : Int32) (v3 : Int32) (v4 : Int32) : wpX_line (fun r => wpY_line (fun r' => r' = r ∧ i_Rel (k + 5) u v) v v1 v2 v3 v4) u v1 v2 v3 v4 := by
  obtain ⟨x_classCount, x_methodCount, x_ruleCount, x_isBuilt, x_faultPlace, x_namedClasses, x_madeClasses, x_namedMethods, x_liveMethods, x_depth, x_stepCount, x_outCount, x_traceCount, x_isInterfaceClass, x_chainOf, x_interfacesOf, x_ancestorsOf, x_homeOf, x_formOf, x_nameOf, x_lengthOf, x_opOf, x_classOf, x_numberOf, x_sourceMethod, x_sourceLine, x_callLine, x_ruleKind, x_ruleClasses, x_ruleNames, x_newNumber, x_familyOf, x_sightOf, x_frameRow, x_frameLine, x_frameHeld, x_outInts, x_traceMethod, x_traceLine⟩ := u; obtain ⟨y_classes, y_methods, y_rules, y_place, y_named, y_made, y_namedMethods, y_live, y_built, y_depth, y_steps, y_outs, y_ending, y_isInterface, y_isAbstract, y_parent, y_ancestors, y_own, y_many, y_home, y_name, y_length, y_op, y_first, y_second, y_ruleKind, y_ruleClasses, y_ruleNames, y_inlined, y_number, y_newName, y_family, y_vMethod, y_vLine, y_vHeld, y_put⟩ := v; have II := I; obtain ⟨C, M, R, t, o, rfl, rfl, rfl, rfl, rfl, rfl, rfl, rfl, rfl, rfl, rfl, rfl, rfl, rfl, rfl, rfl, rfl, rfl, rfl, rfl, rfl, ho, ht, hp, T, hb⟩ := (I : rl_p x_classCount x_methodCount x_ruleCount x_isBuilt x_faultPlace x_namedClasses x_madeClasses x_namedMethods x_liveMethods x_depth x_stepCount x_outCount x_traceCount x_isInterfaceClass x_chainOf x_interfacesOf x_ancestorsOf x_homeOf x_formOf x_nameOf x_lengthOf x_opOf x_classOf x_numberOf x_sourceMethod x_sourceLine x_callLine x_ruleKind x_ruleClasses x_ruleNames x_newNumber x_familyOf x_sightOf x_frameRow x_frameLine x_frameHeld x_outInts x_traceMethod x_traceLine y_classes y_methods y_rules y_place y_named y_made y_namedMethods y_live y_built y_depth y_steps y_outs y_ending y_isInterface y_isAbstract y_parent y_ancestors y_own y_many y_home y_name y_length y_op y_first y_second y_ruleKind y_ruleClasses y_ruleNames y_inlined y_number y_newName y_family y_vMethod y_vLine y_vHeld y_put)
  have h30 := T.2.2.1.1
  have h10 := T.1.1
  unfold wpX_line
  dsimp only
  refine br_c (fun b => xl_bad ?_) (fun b => ?_)
  · unfold wpY_line
    dsimp only
    refine br_t b ?_
    unfold wY_line_19
    exact yl_bad ⟨rfl, II⟩
  obtain ⟨⟨rfl, rfl, rfl, rfl⟩, b1, d1, kept, inl, NF, hI, hin, ml, xb, yn, yf, yw⟩ := hb b
  have hi : in_ok M inl y_length := in_il (fun m hm => (tp_len T hm).2.2) hI
  refine xcn_v h10 rfl (fun z => xl_bad ?_) (fun z => ?_)
  · unfold wpY_line
    dsimp only
    refine br_f b (br_t z ?_)
    unfold wY_line_19
    exact yl_bad ⟨rfl, II⟩
  have yl : ∀ {P : Int32 → Prop}, wY_line_20 P v2 v3 v4 (oI (sc_f (fun c => decide (x_newNumber c = v1)) C)) (nI C) (nI M) (nI R) x_faultPlace x_namedClasses x_madeClasses x_namedMethods x_liveMethods x_isBuilt (nI t) x_stepCount (nI o) y_ending x_isInterfaceClass y_isAbstract y_parent x_ancestorsOf x_interfacesOf y_many x_homeOf y_name y_length y_op y_first y_second x_ruleKind x_ruleClasses x_ruleNames y_inlined y_number y_newName y_family y_vMethod y_vLine y_vHeld x_outInts → wpY_line P (nI C, nI M, nI R, x_faultPlace, x_namedClasses, x_madeClasses, x_namedMethods, x_liveMethods, x_isBuilt, nI t, x_stepCount, nI o, y_ending, x_isInterfaceClass, y_isAbstract, y_parent, x_ancestorsOf, x_interfacesOf, y_many, x_homeOf, y_name, y_length, y_op, y_first, y_second, x_ruleKind, x_ruleClasses, x_ruleNames, y_inlined, y_number, y_newName, y_family, y_vMethod, y_vLine, y_vHeld, x_outInts) v1 v2 v3 v4 := fun h => by
    unfold wpY_line
    dsimp only
    refine br_f b (br_f z (ycn_v h10 rfl ?_))
    have e : sc_f (fun c => bt x_namedClasses c && decide (y_number c = v1)) C = sc_f (fun c => decide (x_newNumber c = v1)) C := sc_fc (fun c hc => by
      show (bt x_namedClasses c && decide (y_number c = v1)) = decide (x_newNumber c = v1)
      rw [xb.2.2.2.2.1 c hc, yn c hc]
      cases hn : bt x_namedClasses c
      · have e1 : nu_v kept x_namedClasses c = -1 := by
          unfold nu_v
          rw [if_neg (fun q => by rw [((xb.2.2.2.2.2 c).mp q).1] at hn; exact absurd hn (by decide)), if_neg (by rw [hn]; decide)]
        rw [e1, Bool.false_and, decide_eq_false (fun q => z (by rw [← q]; decide))]
      · rw [Bool.true_and])
    rw [e]
    exact h
  cases ec : sc_f (fun c => decide (x_newNumber c = v1)) C with
  | none =>
    refine xl_bad (yl ?_)
    rw [ec]
    exact yl_bad ⟨rfl, II⟩
  | some c =>
    have cC := (sc_fe ec).1
    have kl := fun m => kn_le (C := C) (M := M) (anc := x_ancestorsOf) (hom := x_homeOf) (nam := y_name) (N := x_namedClasses) (Q := x_namedMethods) m
    have hfam : ∀ m, m < M → ∃ f, f < 30 ∧ y_family m = nI f := fun m hm => ⟨_, by have := kl m; omega, yf m hm⟩
    have fz : ∀ m, m < M → (x_formOf (30 + m) = 0 ↔ ¬ bt x_namedMethods m = true) := fun m hm => by
      rw [xb.1 m hm]
      by_cases l : bt x_liveMethods m = true
      · rw [if_pos l]; exact ⟨fun q => absurd q (by decide), fun q => absurd (ml.1 m l) q⟩
      · rw [if_neg l]
        by_cases n : bt x_namedMethods m = true
        · rw [if_pos n]; exact ⟨fun q => absurd q (by decide), fun q => absurd n q⟩
        · rw [if_neg n]; exact ⟨fun _ => n, fun _ => rfl⟩
    have yl2 : ∀ {P : Int32 → Prop}, wY_line_38 P v3 v4 (oI (dc_v M x_homeOf (fun m => bt x_namedMethods m && decide (y_newName (hq_t (y_family m)) = v2)) c)) (nI C) (nI M) (nI R) x_faultPlace x_namedClasses x_madeClasses x_namedMethods x_liveMethods x_isBuilt (nI t) x_stepCount (nI o) y_ending x_isInterfaceClass y_isAbstract y_parent x_ancestorsOf x_interfacesOf y_many x_homeOf y_name y_length y_op y_first y_second x_ruleKind x_ruleClasses x_ruleNames y_inlined y_number y_newName y_family y_vMethod y_vLine y_vHeld x_outInts → wpY_line P (nI C, nI M, nI R, x_faultPlace, x_namedClasses, x_madeClasses, x_namedMethods, x_liveMethods, x_isBuilt, nI t, x_stepCount, nI o, y_ending, x_isInterfaceClass, y_isAbstract, y_parent, x_ancestorsOf, x_interfacesOf, y_many, x_homeOf, y_name, y_length, y_op, y_first, y_second, x_ruleKind, x_ruleClasses, x_ruleNames, y_inlined, y_number, y_newName, y_family, y_vMethod, y_vLine, y_vHeld, x_outInts) v1 v2 v3 v4 := fun h => by
      refine yl ?_
      rw [ec, oI_s]
      unfold wY_line_20
      exact br_t (nI_pos' (by omega)) (yst_v h30 rfl ml.1 (mh_10 T.2.2.1 h10) hfam (by omega) h)
    unfold wX_line_16
    rw [oI_s]
    refine br_f (oI_n (by omega)) ?_
    refine xm_v (w := 1) h30 (by decide) (by omega) (mh_10 T.2.2.1 h10) (fun m => bt x_namedMethods m && decide (y_newName (hq_t (y_family m)) = v2)) (fun m hm => ?_) rfl ?_
    · have kli := kl m
      rw [Nat.mul_one, bb_a, decide_eq_true_eq, xb.2.2.2.1 m hm, yf m hm, hq_e (by omega), yw _ (by omega), fz m hm]
      exact ⟨fun q => ⟨fun x => x q.1, q.2⟩, fun q => ⟨Decidable.byContradiction q.1, q.2⟩⟩
    cases ed : dc_v M x_homeOf (fun m => bt x_namedMethods m && decide (y_newName (hq_t (y_family m)) = v2)) c with
    | none =>
      refine br_t rfl (yl2 ?_)
      rw [ed]
      unfold wY_line_38
      exact br_t (by decide) ⟨rfl, II⟩
    | some m =>
      have hm := (sc_fe ed).1
      have l6 := (tp_len T hm).2.2
      have l2 := (tp_len T hm).2.1
      have p24 := po_24 hi h30 hm l6
      have lm := xb.2.1 m hm
      have i60 : vp_in (nI (30 + m)) 60 := vp_in_nI (by omega) (by decide)
      have i30 : vp_in (nI m) 30 := vp_in_nI (by omega) (by decide)
      have y38 : ∀ {P : Int32 → Prop}, ((¬ bt x_liveMethods m = true → P (-1)) ∧ (bt x_liveMethods m = true → ((v3 < 0 → P (-1)) ∧ (¬ v3 < 0 → wpY_in (fun r => (r = 0 → P (-1)) ∧ (¬ r = 0 → ∃ n83 : Nat, wY_line_83 P v4 (nI m) (nI C) (nI M) (nI R) x_faultPlace x_namedClasses x_madeClasses x_namedMethods x_liveMethods x_isBuilt (nI t) x_stepCount (nI o) y_ending x_isInterfaceClass y_isAbstract y_parent x_ancestorsOf x_interfacesOf y_many x_homeOf y_name y_length y_op y_first y_second x_ruleKind x_ruleClasses x_ruleNames y_inlined y_number y_newName y_family y_vMethod y_vLine y_vHeld x_outInts n83 v3 (nI (6 * m)))) v4 6)))) → wpY_line P (nI C, nI M, nI R, x_faultPlace, x_namedClasses, x_madeClasses, x_namedMethods, x_liveMethods, x_isBuilt, nI t, x_stepCount, nI o, y_ending, x_isInterfaceClass, y_isAbstract, y_parent, x_ancestorsOf, x_interfacesOf, y_many, x_homeOf, y_name, y_length, y_op, y_first, y_second, x_ruleKind, x_ruleClasses, x_ruleNames, y_inlined, y_number, y_newName, y_family, y_vMethod, y_vLine, y_vHeld, x_outInts) v1 v2 v3 v4 := fun h => by
        refine yl2 ?_
        rw [ed, oI_s]
        unfold wY_line_38
        refine br_f (nI_pos (by omega)) (yb_b (by omega) (fun l => br_c (fun q => (h.2 l).1 q) (fun q => ?_)) (fun l => h.1 l))
        have := (h.2 l).2 q
        rw [← nI_m6] at this
        refine yn_b (n := 6) (by decide) (fun j hj ej => nm_e ?_) (fun z => ?_)
        · unfold wpY_in at this
          rw [ej] at this ⊢
          have := (this.2 (nI_pos (by omega))).2 (nI_ge (b := 6) hj (by decide))
          exact this.2 (by decide)
        · unfold wpY_in at this
          rcases z with z | z
          · exact (this.1 z).1 rfl
          · exact ((this.2 (ix_0 (by decide) z)).1 z).1 rfl
      rw [oI_s, nI_b30, nI_c (show 30 + m < 10000 by omega)]
      refine br_f (oI_n (by omega)) ?_
      by_cases lv : bt x_liveMethods m = true
      · rw [if_pos lv] at lm
        rw [lm]
        rcases pk_ix v3 (n := po_n inl y_length m (hq_t (y_length m))) (by omega) with z3 | z3 | ⟨kk, hkk, rfl⟩
        · exact br_t z3 (y38 ⟨fun q => absurd lv q, fun _ => br_t z3 ⟨rfl, II⟩⟩)
        · have n3 : ¬ v3 < 0 := ix_0 (by omega) z3
          refine br_f n3 ⟨i60, br_f (ix_l z3) (y38 ⟨fun q => absurd lv q, fun _ => br_f n3 (yn_b (n := 6) (by decide) (fun w hw ew => ⟨hq_t (y_length m) + 1, ?_⟩) (fun _ => ⟨rfl, II⟩))⟩)⟩
          obtain ⟨kk, hkk, rfl⟩ := nI_of n3
          have hkl : po_n inl y_length m (hq_t (y_length m)) ≤ kk := (nI_leI (by omega) hkk).mp z3
          have lo : ∀ q x f, x + q = hq_t (y_length m) → q < f → wY_line_83 (fun r' => r' = -1 ∧ i_Rel (k + 5) (nI C, nI M, nI R, x_isBuilt, x_faultPlace, x_namedClasses, x_madeClasses, x_namedMethods, x_liveMethods, x_depth, x_stepCount, nI o, nI t, x_isInterfaceClass, x_chainOf, x_interfacesOf, x_ancestorsOf, x_homeOf, x_formOf, x_nameOf, x_lengthOf, x_opOf, x_classOf, x_numberOf, x_sourceMethod, x_sourceLine, x_callLine, x_ruleKind, x_ruleClasses, x_ruleNames, x_newNumber, x_familyOf, x_sightOf, x_frameRow, x_frameLine, x_frameHeld, x_outInts, x_traceMethod, x_traceLine) (nI C, nI M, nI R, x_faultPlace, x_namedClasses, x_madeClasses, x_namedMethods, x_liveMethods, x_isBuilt, nI t, x_stepCount, nI o, y_ending, x_isInterfaceClass, y_isAbstract, y_parent, x_ancestorsOf, x_interfacesOf, y_many, x_homeOf, y_name, y_length, y_op, y_first, y_second, x_ruleKind, x_ruleClasses, x_ruleNames, y_inlined, y_number, y_newName, y_family, y_vMethod, y_vLine, y_vHeld, x_outInts)) v4 (nI m) (nI C) (nI M) (nI R) x_faultPlace x_namedClasses x_madeClasses x_namedMethods x_liveMethods x_isBuilt (nI t) x_stepCount (nI o) y_ending x_isInterfaceClass y_isAbstract y_parent x_ancestorsOf x_interfacesOf y_many x_homeOf y_name y_length y_op y_first y_second x_ruleKind x_ruleClasses x_ruleNames y_inlined y_number y_newName y_family y_vMethod y_vLine y_vHeld x_outInts f (nI (kk - po_n inl y_length m x)) (nI (6 * m + x)) := by
            intro q
            induction q with
            | zero =>
              intro x f e hf
              obtain ⟨f, rfl⟩ : ∃ q, f = q + 1 := ⟨f - 1, by omega⟩
              rw [wY_line_83]
              refine ⟨i30, ?_⟩
              rw [nI_c (show m < 10000 by omega), l2, nI_a6]
              exact br_t (nI_le (by omega) (by omega)) ⟨rfl, II⟩
            | succ q ih =>
              intro x f e hf
              obtain ⟨f, rfl⟩ : ∃ q, f = q + 1 := ⟨f - 1, by omega⟩
              have mo : po_n inl y_length m (x + 1) ≤ po_n inl y_length m (hq_t (y_length m)) := ps_mo (gr := gy_n inl y_length m) (by omega)
              have es := po_s inl y_length m x
              have g1 : 1 ≤ gy_n inl y_length m x := by
                unfold gy_n; split <;> omega
              rw [wY_line_83]
              refine ⟨i30, ?_⟩
              rw [nI_c (show m < 10000 by omega), l2, nI_a6]
              refine br_f (nI_ge (by omega) (by omega)) (br_f (nI_ne0 (by omega) (by omega)) ?_)
              refine yg_v h30 (fun m hm => ⟨(tp_len T hm).2.1, (tp_len T hm).2.2⟩) hi hin hm (by omega) (br_t (nI_le (by omega) (by omega)) ?_)
              refine yg_v h30 (fun m hm => ⟨(tp_len T hm).2.1, (tp_len T hm).2.2⟩) hi hin hm (by omega) ?_
              refine nm_r (pk_sub (by omega)) (nm_r (nI_1 _) ?_)
              have := ih (x + 1) f (by omega) (by omega)
              rw [es, ← Nat.sub_sub] at this
              exact this
          have := lo (hq_t (y_length m)) 0 (hq_t (y_length m) + 1) (by omega) (by omega)
          exact this
        · have n3 : ¬ nI kk < 0 := nI_pos (by omega)
          have ip : vp_in (nI (24 * (30 + m) + kk)) 1440 := vp_in_nI (by omega) (by decide)
          refine br_f n3 ⟨i60, br_t (nI_lt hkk (by omega)) (nm_r (nI_a24 (30 + m) kk) ?_)⟩
          rw [nI_c (show 24 * (30 + m) + kk < 10000 by omega)]
          rcases pk_ix v4 (n := 6) (by decide) with z4 | z4 | ⟨w, hw, rfl⟩
          · exact br_t z4 (y38 ⟨fun q => absurd lv q, fun _ => br_f n3 (yn_b (n := 6) (by decide) (fun j hj e => absurd z4 (by rw [e]; exact nI_pos (by omega))) (fun _ => ⟨rfl, II⟩))⟩)
          · have z5 : 5 < v4 := by
              rw [Int32.le_iff_toInt_le] at z4
              rw [Int32.lt_iff_toInt_lt]
              have e1 : (5 : Int32).toInt = 5 := by decide
              have e2 : (nI 6).toInt = 6 := by decide
              omega
            exact br_f (ix_0 (by decide) z4) (br_t z5 (y38 ⟨fun q => absurd lv q, fun _ => br_f n3 (yn_b (n := 6) (by decide) (fun j hj e => absurd z4 (by rw [e]; exact nI_ge hj (by decide))) (fun _ => ⟨rfl, II⟩))⟩))
          · have cP := (ly_c T NF hi (fun m x hm hx n => by
                have l6 := (tp_len T hm).2.2
                rcases in_bl hI hm (show x < 6 by omega) with e | ⟨t, tM, et, _, ops, _⟩
                · rw [e] at n; exact absurd (by decide) n
                · exact ⟨t, tM, et, ops⟩) hm (fun x hx => xb.2.2.1 m hm lv x hx) hkk).1
            refine xl_w (post := fun r => wpY_line (fun r' => r' = r ∧ i_Rel (k + 5) (nI C, nI M, nI R, x_isBuilt, x_faultPlace, x_namedClasses, x_madeClasses, x_namedMethods, x_liveMethods, x_depth, x_stepCount, nI o, nI t, x_isInterfaceClass, x_chainOf, x_interfacesOf, x_ancestorsOf, x_homeOf, x_formOf, x_nameOf, x_lengthOf, x_opOf, x_classOf, x_numberOf, x_sourceMethod, x_sourceLine, x_callLine, x_ruleKind, x_ruleClasses, x_ruleNames, x_newNumber, x_familyOf, x_sightOf, x_frameRow, x_frameLine, x_frameHeld, x_outInts, x_traceMethod, x_traceLine) (nI C, nI M, nI R, x_faultPlace, x_namedClasses, x_madeClasses, x_namedMethods, x_liveMethods, x_isBuilt, nI t, x_stepCount, nI o, y_ending, x_isInterfaceClass, y_isAbstract, y_parent, x_ancestorsOf, x_interfacesOf, y_many, x_homeOf, y_name, y_length, y_op, y_first, y_second, x_ruleKind, x_ruleClasses, x_ruleNames, y_inlined, y_number, y_newName, y_family, y_vMethod, y_vLine, y_vHeld, x_outInts)) (nI C, nI M, nI R, x_faultPlace, x_namedClasses, x_madeClasses, x_namedMethods, x_liveMethods, x_isBuilt, nI t, x_stepCount, nI o, y_ending, x_isInterfaceClass, y_isAbstract, y_parent, x_ancestorsOf, x_interfacesOf, y_many, x_homeOf, y_name, y_length, y_op, y_first, y_second, x_ruleKind, x_ruleClasses, x_ruleNames, y_inlined, y_number, y_newName, y_family, y_vMethod, y_vLine, y_vHeld, x_outInts) v1 v2 (nI kk) (nI w)) (by omega) hw (cP.elim Or.inl (fun ⟨q, qC, e⟩ => Or.inr ⟨q, by omega, e⟩)) ?_
            refine y38 ⟨fun q => absurd lv q, fun _ => br_f n3 (yn_b (n := 6) (by decide) (fun _ _ _ => ⟨hq_t (y_length m) + 1, ?_⟩) (fun z => absurd z (fun y => y.elim (nI_pos (by omega)) (nI_ge hw (by decide)))))⟩
            generalize eV : xv_v x_opOf x_classOf x_numberOf x_sourceMethod x_sourceLine x_callLine x_newNumber (24 * (30 + m) + kk) w = V
            have lo : ∀ q x f, x + q = hq_t (y_length m) → q < f → po_n inl y_length m x ≤ kk → wY_line_83 (fun r' => r' = V ∧ i_Rel (k + 5) (nI C, nI M, nI R, x_isBuilt, x_faultPlace, x_namedClasses, x_madeClasses, x_namedMethods, x_liveMethods, x_depth, x_stepCount, nI o, nI t, x_isInterfaceClass, x_chainOf, x_interfacesOf, x_ancestorsOf, x_homeOf, x_formOf, x_nameOf, x_lengthOf, x_opOf, x_classOf, x_numberOf, x_sourceMethod, x_sourceLine, x_callLine, x_ruleKind, x_ruleClasses, x_ruleNames, x_newNumber, x_familyOf, x_sightOf, x_frameRow, x_frameLine, x_frameHeld, x_outInts, x_traceMethod, x_traceLine) (nI C, nI M, nI R, x_faultPlace, x_namedClasses, x_madeClasses, x_namedMethods, x_liveMethods, x_isBuilt, nI t, x_stepCount, nI o, y_ending, x_isInterfaceClass, y_isAbstract, y_parent, x_ancestorsOf, x_interfacesOf, y_many, x_homeOf, y_name, y_length, y_op, y_first, y_second, x_ruleKind, x_ruleClasses, x_ruleNames, y_inlined, y_number, y_newName, y_family, y_vMethod, y_vLine, y_vHeld, x_outInts)) (nI w) (nI m) (nI C) (nI M) (nI R) x_faultPlace x_namedClasses x_madeClasses x_namedMethods x_liveMethods x_isBuilt (nI t) x_stepCount (nI o) y_ending x_isInterfaceClass y_isAbstract y_parent x_ancestorsOf x_interfacesOf y_many x_homeOf y_name y_length y_op y_first y_second x_ruleKind x_ruleClasses x_ruleNames y_inlined y_number y_newName y_family y_vMethod y_vLine y_vHeld x_outInts f (nI (kk - po_n inl y_length m x)) (nI (6 * m + x)) := by
              intro q
              induction q with
              | zero =>
                intro x f e hf hx
                have e : x = hq_t (y_length m) := by omega
                rw [e] at hx; omega
              | succ q ih =>
                intro x f e hf hx
                obtain ⟨f, rfl⟩ : ∃ q, f = q + 1 := ⟨f - 1, by omega⟩
                have i180 : vp_in (nI (6 * m + x)) 180 := vp_in_nI (by omega) (by decide)
                have es := po_s inl y_length m x
                rw [wY_line_83]
                refine ⟨i30, ?_⟩
                rw [nI_c (show m < 10000 by omega), l2, nI_a6, nI_c (show 6 * m + x < 10000 by omega), hin m x hm (by omega)]
                refine br_f (nI_ge (by omega) (by omega)) (pk_eq (kk - po_n inl y_length m x) 0 (fun z => ⟨i180, ?_⟩) (fun z => ?_))
                · have ek : kk = po_n inl y_length m x := by omega
                  subst ek
                  obtain ⟨oo, g, o6, ey, hc, hg, val⟩ := lv_h T NF hI xb yn yf yw hm lv (show x < hq_t (y_length m) by omega)
                  have val := val w hw
                  rw [eV] at val
                  refine br_c (fun n => ?_) (fun n => ?_)
                  · rw [if_pos n] at val
                    unfold wY_line_124
                    exact ytv_v T rfl rfl hfam hm (by omega) ey o6 hw hc hg ⟨val.symm, II⟩
                  · rw [if_neg n] at val
                    unfold wY_line_124
                    exact ytv_v T rfl rfl hfam hm (by omega) ey o6 hw hc hg ⟨val.symm, II⟩
                · refine yg_v h30 (fun m hm => ⟨(tp_len T hm).2.1, (tp_len T hm).2.2⟩) hi hin hm (by omega) ?_
                  refine pk_le (gy_n inl y_length m x) (kk - po_n inl y_length m x) (fun le => ?_) (fun lt => ⟨i180, by decide, ?_⟩) rfl rfl (by have := gy_4 hi h30 hm x; omega) (by omega)
                  · refine yg_v h30 (fun m hm => ⟨(tp_len T hm).2.1, (tp_len T hm).2.2⟩) hi hin hm (by omega) ?_
                    refine nm_r (pk_sub (by omega)) (nm_r (nI_1 _) ?_)
                    have := ih (x + 1) f (by omega) (by omega) (by omega)
                    rw [es, ← Nat.sub_sub] at this
                    exact this
                  · by_cases n : inl (6 * m + x) < 0
                    · rw [gy_1 n] at lt; omega
                    · rw [gy_t (by omega) n] at lt
                      obtain ⟨j, ej⟩ : ∃ j, kk - po_n inl y_length m x = 1 + j := ⟨kk - po_n inl y_length m x - 1, by omega⟩
                      obtain ⟨s, oo, sM, es', j3, o05, ey, js, val⟩ := lv_i T hI xb hm lv (show x < hq_t (y_length m) by omega) n (j := j) (by omega) (y_newName (hq_t (y_family 0)))
                      have val := val w hw
                      have ek : 24 * (30 + m) + po_n inl y_length m x + 1 + j = 24 * (30 + m) + kk := by omega
                      rw [ek, eV] at val
                      rw [es', ej, nI_r6 (by omega), show (6 * m + x) % 6 = x from by omega, nI_a6, show nI (6 * s + (1 + j)) - 1 = nI (6 * s + j) from by
                        rw [show 6 * s + (1 + j) = 6 * s + j + 1 from by omega, nI_pred]]
                      exact ytv_v (g := 0) T rfl rfl hfam sM (by omega) ey (by omega) hw (fun a b => by omega) (fun a => by omega) ⟨val.symm, II⟩
            exact lo (hq_t (y_length m)) 0 _ (by omega) (by omega) (Nat.zero_le _)
      · rw [if_neg lv] at lm
        rw [lm]
        refine br_c (fun z3 => y38 ⟨fun _ => ⟨rfl, II⟩, fun q => absurd q lv⟩) (fun z3 => ⟨i60, br_f z3 (y38 ⟨fun _ => ⟨rfl, II⟩, fun q => absurd q lv⟩)⟩)
