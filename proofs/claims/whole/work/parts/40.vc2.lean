/-! ===== method, code ===== -/
section
variable {x_classCount x_methodCount x_ruleCount x_isBuilt x_faultPlace x_namedClasses x_madeClasses x_namedMethods x_liveMethods x_depth x_stepCount x_outCount x_traceCount : Int32} {x_isInterfaceClass x_chainOf x_interfacesOf x_ancestorsOf x_homeOf x_formOf x_nameOf x_lengthOf x_opOf x_classOf x_numberOf x_sourceMethod x_sourceLine x_callLine x_ruleKind x_ruleClasses x_ruleNames x_newNumber x_familyOf x_sightOf x_frameRow x_frameLine x_frameHeld x_outInts x_traceMethod x_traceLine : Nat → Int32} {y_classes y_methods y_rules y_place y_named y_made y_namedMethods y_live y_built y_depth y_steps y_outs y_ending : Int32} {y_isInterface y_isAbstract y_parent y_ancestors y_own y_many y_home y_name y_length y_op y_first y_second y_ruleKind y_ruleClasses y_ruleNames y_inlined y_number y_newName y_family y_vMethod y_vLine y_vHeld y_put : Nat → Int32} {C M R : Nat}
theorem tp_meth {c n : Nat} {f a : Int32} (T : tp_p (c + 1) M R x_isInterfaceClass x_ancestorsOf x_interfacesOf x_chainOf y_parent y_many x_homeOf x_ruleKind x_ruleClasses x_ruleNames x_formOf x_nameOf x_lengthOf y_isAbstract y_name y_length x_opOf x_classOf x_numberOf x_sourceMethod x_sourceLine x_callLine y_op y_first y_second)
    (hM : M < 30) (hn : n < 10) (hd : dc_v M x_homeOf (fun m => decide (y_name m = nI n)) c = none) (hf : (a = 0 ∧ f = 2) ∨ (¬ a = 0 ∧ f = 1)) (hi : ¬ x_isInterfaceClass c = 0 → ¬ a = 0) :
    tp_p (c + 1) (M + 1) R x_isInterfaceClass x_ancestorsOf x_interfacesOf x_chainOf y_parent y_many (upd x_homeOf M (nI c)) x_ruleKind x_ruleClasses x_ruleNames (upd x_formOf M f) (upd x_nameOf M (nI n)) (upd x_lengthOf M 0) (upd y_isAbstract M a) (upd y_name M (nI n)) (upd y_length M 0) x_opOf x_classOf x_numberOf x_sourceMethod x_sourceLine x_callLine y_op y_first y_second := by
  obtain ⟨h1, h2, h3, h4, h5, h6, h7, h8⟩ := T
  have h10 := h1.1
  have hce : hq_t (nI c) = c := hq_e (by omega)
  have dn : ∀ b, b < M → y_name b = nI n → hq_t (x_homeOf b) = c → False := fun b hb e1 e2 => sc_fn hd b hb (bb_a.mpr ⟨decide_eq_true e2, decide_eq_true e1⟩)
  refine ⟨h1, h2, ⟨by omega, fun m hm => ?_, fun p q hpq hq => ?_⟩, fun m hm => ?_, fun p q hp hq e1 e2 => ?_, fun m k hm hk => ?_, h7, h8⟩
  · by_cases w : m = M
    · subst w; rw [pk_us]; exact ⟨c, by omega, rfl⟩
    · rw [pk_un w]; exact h3.2.1 m (by omega)
  · rw [pk_un (show p ≠ M by omega)]
    by_cases w : q = M
    · subst w; rw [pk_us, hce]
      have := (mh_h h3 h10 (m := p) (by omega)).2
      omega
    · rw [pk_un w]; exact h3.2.2 p q hpq (by omega)
  · by_cases w : m = M
    · subst w
      unfold me_p
      rw [pk_us, pk_us, pk_us, pk_us, pk_us, pk_us, pk_us, hce]
      exact ⟨⟨n, hn, rfl, rfl⟩, ⟨0, by omega, rfl, rfl⟩, hf, hi⟩
    · have := h4 m (by omega)
      unfold me_p at this ⊢
      rw [pk_un w, pk_un w, pk_un w, pk_un w, pk_un w, pk_un w, pk_un w]
      exact this
  · by_cases w : p = M
    · by_cases x : q = M
      · omega
      · subst w
        rw [pk_us, pk_un x] at e1 e2
        rw [hce] at e2
        exact (dn q (by omega) e1.symm e2.symm).elim
    · by_cases x : q = M
      · subst x
        rw [pk_us, pk_un w] at e1 e2
        rw [hce] at e2
        exact (dn p (by omega) e1 e2).elim
      · rw [pk_un w, pk_un x] at e1 e2
        exact h5 p q (by omega) (by omega) e1 e2
  · by_cases w : m = M
    · subst w
      rw [pk_us] at hk
      have : hq_t (0 : Int32) = 0 := hq_e (n := 0) (by decide)
      omega
    · rw [pk_un w] at hk
      exact h6 m k (by omega) hk
end
theorem lw_0 (v : Int32) : vp_nar .boolean (lw_bz v) = lw_bz v := by
  rcases lw_bz_01 v with e | e <;> rw [e] <;> rfl
theorem i_vc_method {k : Nat} {u : SX} {v : SY} (I : i_Rel k u v) (hk : k + 5 ≤ 2560) (v1 : Int32) (v2 : Int32) : wpX_method (fun r u' => wpY_method (fun r' v' => r' = r ∧ i_Rel (k + 5) u' v') v v1 (lw_bz v2)) u v1 (lw_bz v2) := by
  obtain ⟨x_classCount, x_methodCount, x_ruleCount, x_isBuilt, x_faultPlace, x_namedClasses, x_madeClasses, x_namedMethods, x_liveMethods, x_depth, x_stepCount, x_outCount, x_traceCount, x_isInterfaceClass, x_chainOf, x_interfacesOf, x_ancestorsOf, x_homeOf, x_formOf, x_nameOf, x_lengthOf, x_opOf, x_classOf, x_numberOf, x_sourceMethod, x_sourceLine, x_callLine, x_ruleKind, x_ruleClasses, x_ruleNames, x_newNumber, x_familyOf, x_sightOf, x_frameRow, x_frameLine, x_frameHeld, x_outInts, x_traceMethod, x_traceLine⟩ := u; obtain ⟨y_classes, y_methods, y_rules, y_place, y_named, y_made, y_namedMethods, y_live, y_built, y_depth, y_steps, y_outs, y_ending, y_isInterface, y_isAbstract, y_parent, y_ancestors, y_own, y_many, y_home, y_name, y_length, y_op, y_first, y_second, y_ruleKind, y_ruleClasses, y_ruleNames, y_inlined, y_number, y_newName, y_family, y_vMethod, y_vLine, y_vHeld, y_put⟩ := v; have II := I; obtain ⟨C, M, R, t, o, rfl, rfl, rfl, rfl, rfl, rfl, rfl, rfl, rfl, rfl, rfl, rfl, rfl, rfl, rfl, rfl, rfl, rfl, rfl, rfl, rfl, ho, ht, hp, T, hb⟩ := (I : rl_p x_classCount x_methodCount x_ruleCount x_isBuilt x_faultPlace x_namedClasses x_madeClasses x_namedMethods x_liveMethods x_depth x_stepCount x_outCount x_traceCount x_isInterfaceClass x_chainOf x_interfacesOf x_ancestorsOf x_homeOf x_formOf x_nameOf x_lengthOf x_opOf x_classOf x_numberOf x_sourceMethod x_sourceLine x_callLine x_ruleKind x_ruleClasses x_ruleNames x_newNumber x_familyOf x_sightOf x_frameRow x_frameLine x_frameHeld x_outInts x_traceMethod x_traceLine y_classes y_methods y_rules y_place y_named y_made y_namedMethods y_live y_built y_depth y_steps y_outs y_ending y_isInterface y_isAbstract y_parent y_ancestors y_own y_many y_home y_name y_length y_op y_first y_second y_ruleKind y_ruleClasses y_ruleNames y_inlined y_number y_newName y_family y_vMethod y_vLine y_vHeld y_put)
  have h10 := T.1.1
  have h30 := T.2.2.1.1
  have p01 := lw_0 v2
  generalize lw_bz v2 = p1 at p01 ⊢
  unfold wpX_method
  dsimp only
  rcases Nat.eq_zero_or_pos C with c0 | c0
  · subst c0
    have e : nI 0 - 1 = -1 := by decide
    refine nm_r e (br_t (by decide) ?_)
    unfold wpY_method
    dsimp only
    exact nm_r e (br_t (by decide) ⟨rfl, II⟩)
  · obtain ⟨c, rfl⟩ : ∃ c, C = c + 1 := ⟨C - 1, by omega⟩
    have ic : vp_in (nI c) 10 := vp_in_nI (by omega) (by decide)
    refine nm_r (nI_pred c) (br_f (nI_pos (by omega)) ?_)
    have yb : (v1 < 0 ∨ nI 10 ≤ v1) → wpY_method (fun r' v' => r' = (-1) ∧ i_Rel (k + 5) (nI (c + 1), nI M, nI R, x_isBuilt, x_faultPlace, x_namedClasses, x_madeClasses, x_namedMethods, x_liveMethods, x_depth, x_stepCount, nI o, nI t, x_isInterfaceClass, x_chainOf, x_interfacesOf, x_ancestorsOf, x_homeOf, x_formOf, x_nameOf, x_lengthOf, x_opOf, x_classOf, x_numberOf, x_sourceMethod, x_sourceLine, x_callLine, x_ruleKind, x_ruleClasses, x_ruleNames, x_newNumber, x_familyOf, x_sightOf, x_frameRow, x_frameLine, x_frameHeld, x_outInts, x_traceMethod, x_traceLine) v') (nI (c + 1), nI M, nI R, x_faultPlace, y_named, y_made, y_namedMethods, y_live, x_isBuilt, nI t, x_stepCount, nI o, y_ending, x_isInterfaceClass, y_isAbstract, y_parent, x_ancestorsOf, x_interfacesOf, y_many, x_homeOf, y_name, y_length, y_op, y_first, y_second, x_ruleKind, x_ruleClasses, x_ruleNames, y_inlined, y_number, y_newName, y_family, y_vMethod, y_vLine, y_vHeld, x_outInts) v1 p1 := fun z => by
      unfold wpY_method
      dsimp only
      refine nm_r (nI_pred c) (br_f (nI_pos (by omega)) (yn_b (n := 10) (by omega) (fun j hj e => ?_) (fun _ => ⟨rfl, II⟩)))
      rw [e] at z
      exact absurd z (fun y => y.elim (nI_pos (by omega)) (nI_ge hj (by omega)))
    rcases pk_ix v1 (n := 10) (by decide) with z | z | ⟨n, hn, rfl⟩
    · exact br_t z (yb (Or.inl z))
    · exact br_f (ix_0 (by decide) z) (br_f (ix_l z) (yb (Or.inr z)))
    · refine br_f (nI_pos (by omega)) (br_t (nI_lt (b := 10) hn (by decide)) ?_)
      have yd : ∀ {P : Int32 → SY → Prop}, ((0 ≤ oI (dc_v M x_homeOf (fun m => decide (y_name m = nI n)) c) → P (-1) (nI (c + 1), nI M, nI R, x_faultPlace, y_named, y_made, y_namedMethods, y_live, x_isBuilt, nI t, x_stepCount, nI o, y_ending, x_isInterfaceClass, y_isAbstract, y_parent, x_ancestorsOf, x_interfacesOf, y_many, x_homeOf, y_name, y_length, y_op, y_first, y_second, x_ruleKind, x_ruleClasses, x_ruleNames, y_inlined, y_number, y_newName, y_family, y_vMethod, y_vLine, y_vHeld, x_outInts)) ∧ (¬ 0 ≤ oI (dc_v M x_homeOf (fun m => decide (y_name m = nI n)) c) → (vp_in (nI c) 10 ∧ ((x_isInterfaceClass c = 0 → wY_method_44 P (nI n) p1 (nI c) (nI (c + 1)) (nI M) (nI R) x_faultPlace y_named y_made y_namedMethods y_live x_isBuilt (nI t) x_stepCount (nI o) y_ending x_isInterfaceClass y_isAbstract y_parent x_ancestorsOf x_interfacesOf y_many x_homeOf y_name y_length y_op y_first y_second x_ruleKind x_ruleClasses x_ruleNames y_inlined y_number y_newName y_family y_vMethod y_vLine y_vHeld x_outInts) ∧ (¬ x_isInterfaceClass c = 0 → ((p1 = 0 → P (-1) (nI (c + 1), nI M, nI R, x_faultPlace, y_named, y_made, y_namedMethods, y_live, x_isBuilt, nI t, x_stepCount, nI o, y_ending, x_isInterfaceClass, y_isAbstract, y_parent, x_ancestorsOf, x_interfacesOf, y_many, x_homeOf, y_name, y_length, y_op, y_first, y_second, x_ruleKind, x_ruleClasses, x_ruleNames, y_inlined, y_number, y_newName, y_family, y_vMethod, y_vLine, y_vHeld, x_outInts)) ∧ (¬ p1 = 0 → wY_method_44 P (nI n) p1 (nI c) (nI (c + 1)) (nI M) (nI R) x_faultPlace y_named y_made y_namedMethods y_live x_isBuilt (nI t) x_stepCount (nI o) y_ending x_isInterfaceClass y_isAbstract y_parent x_ancestorsOf x_interfacesOf y_many x_homeOf y_name y_length y_op y_first y_second x_ruleKind x_ruleClasses x_ruleNames y_inlined y_number y_newName y_family y_vMethod y_vLine y_vHeld x_outInts)))))) ) →
          wpY_method P (nI (c + 1), nI M, nI R, x_faultPlace, y_named, y_made, y_namedMethods, y_live, x_isBuilt, nI t, x_stepCount, nI o, y_ending, x_isInterfaceClass, y_isAbstract, y_parent, x_ancestorsOf, x_interfacesOf, y_many, x_homeOf, y_name, y_length, y_op, y_first, y_second, x_ruleKind, x_ruleClasses, x_ruleNames, y_inlined, y_number, y_newName, y_family, y_vMethod, y_vLine, y_vHeld, x_outInts) (nI n) p1 := fun h => by
        unfold wpY_method
        dsimp only
        refine nm_r (nI_pred c) (br_f (nI_pos (by omega)) (yn_b (n := 10) (by omega) (fun _ _ _ => ?_) (fun z => absurd z (fun y => y.elim (nI_pos (by omega)) (nI_ge hn (by decide))))))
        refine yd_v h30 (by omega) (mh_10 T.2.2.1 h10) rfl ?_
        rw [nI_c (show c < 10000 by omega)]
        exact h
      refine xm_v (w := 0) h30 (by decide) (by omega) (mh_10 T.2.2.1 h10) (fun m => decide (y_name m = nI n)) (fun m hm => ?_) rfl ?_
      · obtain ⟨⟨q, _, e1, e2⟩, _, e3, _⟩ := T.2.2.2.1 m hm
        rw [Nat.mul_zero, Nat.zero_add, decide_eq_true_eq, e1, e2]
        refine ⟨fun z => ⟨?_, z⟩, fun z => z.2⟩
        rcases e3 with ⟨_, e⟩ | ⟨_, e⟩ <;> rw [e] <;> decide
      cases ed : dc_v M x_homeOf (fun m => decide (y_name m = nI n)) c with
      | some m =>
        have m30 := dc_b h30 ed
        refine br_f (oI_n (by omega)) (yd ?_)
        rw [ed]
        exact br_t (nI_pos' (by omega)) ⟨rfl, II⟩
      | none =>
        rw [nI_c (show c < 10000 by omega)]
        have go : (¬ x_isInterfaceClass c = 0 → ¬ p1 = 0) → (x_isInterfaceClass c = 0 ∨ ¬ x_isInterfaceClass c = 0) → wX_method_49 (fun r u' => wpY_method (fun r' v' => r' = r ∧ i_Rel (k + 5) u' v') (nI (c + 1), nI M, nI R, x_faultPlace, y_named, y_made, y_namedMethods, y_live, x_isBuilt, nI t, x_stepCount, nI o, y_ending, x_isInterfaceClass, y_isAbstract, y_parent, x_ancestorsOf, x_interfacesOf, y_many, x_homeOf, y_name, y_length, y_op, y_first, y_second, x_ruleKind, x_ruleClasses, x_ruleNames, y_inlined, y_number, y_newName, y_family, y_vMethod, y_vLine, y_vHeld, x_outInts) (nI n) p1) (nI n) p1 (nI c) (nI (c + 1)) (nI M) (nI R) x_isBuilt x_faultPlace x_namedClasses x_madeClasses x_namedMethods x_liveMethods x_depth x_stepCount (nI o) (nI t) x_isInterfaceClass x_chainOf x_interfacesOf x_ancestorsOf x_homeOf x_formOf x_nameOf x_lengthOf x_opOf x_classOf x_numberOf x_sourceMethod x_sourceLine x_callLine x_ruleKind x_ruleClasses x_ruleNames x_newNumber x_familyOf x_sightOf x_frameRow x_frameLine x_frameHeld x_outInts x_traceMethod x_traceLine := fun hi _ => by
          have yy : ∀ {P : Int32 → SY → Prop}, wY_method_44 P (nI n) p1 (nI c) (nI (c + 1)) (nI M) (nI R) x_faultPlace y_named y_made y_namedMethods y_live x_isBuilt (nI t) x_stepCount (nI o) y_ending x_isInterfaceClass y_isAbstract y_parent x_ancestorsOf x_interfacesOf y_many x_homeOf y_name y_length y_op y_first y_second x_ruleKind x_ruleClasses x_ruleNames y_inlined y_number y_newName y_family y_vMethod y_vLine y_vHeld x_outInts → wpY_method P (nI (c + 1), nI M, nI R, x_faultPlace, y_named, y_made, y_namedMethods, y_live, x_isBuilt, nI t, x_stepCount, nI o, y_ending, x_isInterfaceClass, y_isAbstract, y_parent, x_ancestorsOf, x_interfacesOf, y_many, x_homeOf, y_name, y_length, y_op, y_first, y_second, x_ruleKind, x_ruleClasses, x_ruleNames, y_inlined, y_number, y_newName, y_family, y_vMethod, y_vLine, y_vHeld, x_outInts) (nI n) p1 := fun h => by
            refine yd ?_
            rw [ed]
            exact br_f (by decide) ⟨ic, br_c (fun _ => h) (fun q => br_f (hi q) h)⟩
          unfold wX_method_49
          refine pk_eq M 30 (fun e30 => yy ?_) (fun e30 => ?_)
          · unfold wY_method_44
            exact br_t (by rw [e30]; rfl) ⟨rfl, II⟩
          · have iM : vp_in (nI M) 30 := vp_in_nI (by omega) (by decide)
            have iM6 : vp_in (nI M) 60 := vp_in_nI (by omega) (by decide)
            have ne : ¬ nI M = 30 := fun z => e30 ((nI_eq (a := M) (b := 30) (by omega) (by omega)).mp z)
            have fin : ∀ f, ((p1 = 0 ∧ f = 2) ∨ (¬ p1 = 0 ∧ f = 1)) → wX_method_100 (fun r u' => wpY_method (fun r' v' => r' = r ∧ i_Rel (k + 5) u' v') (nI (c + 1), nI M, nI R, x_faultPlace, y_named, y_made, y_namedMethods, y_live, x_isBuilt, nI t, x_stepCount, nI o, y_ending, x_isInterfaceClass, y_isAbstract, y_parent, x_ancestorsOf, x_interfacesOf, y_many, x_homeOf, y_name, y_length, y_op, y_first, y_second, x_ruleKind, x_ruleClasses, x_ruleNames, y_inlined, y_number, y_newName, y_family, y_vMethod, y_vLine, y_vHeld, x_outInts) (nI n) p1) (nI n) (nI M) f (nI M) (nI (c + 1)) (nI (M + 1)) (nI R) x_isBuilt x_faultPlace x_namedClasses x_madeClasses x_namedMethods x_liveMethods x_depth x_stepCount (nI o) (nI t) x_isInterfaceClass x_chainOf x_interfacesOf x_ancestorsOf (upd x_homeOf M (nI c)) x_formOf x_nameOf x_lengthOf x_opOf x_classOf x_numberOf x_sourceMethod x_sourceLine x_callLine x_ruleKind x_ruleClasses x_ruleNames x_newNumber x_familyOf x_sightOf x_frameRow x_frameLine x_frameHeld x_outInts x_traceMethod x_traceLine := fun f hf => by
              unfold wX_method_100
              rw [nI_c (show M < 10000 by omega)]
              refine ⟨iM6, nm_e ⟨iM6, nm_e ⟨iM6, nm_e (yy ?_)⟩⟩⟩
              unfold wY_method_44
              rw [nI_c (show M < 10000 by omega), p01]
              refine br_f ne (nm_r (nI_1 M) ⟨iM, nm_e ⟨iM, nm_e ⟨iM, nm_e ⟨iM, nm_e ⟨rfl, ?_⟩⟩⟩⟩⟩)
              exact rl_0 (C := c + 1) (M := M + 1) (k + 5) ho ht hp (tp_meth T (by omega) hn ed hf hi)
            rw [nI_c (show M < 10000 by omega)]
            exact nm_r (nI_1 M) ⟨iM, nm_e (br_c (fun q => fin 2 (Or.inl ⟨q, rfl⟩)) (fun q => fin 1 (Or.inr ⟨q, rfl⟩)))⟩
        refine br_t rfl ⟨ic, br_c (fun f => go (fun q => absurd f q) (Or.inl f)) (fun f => br_c (fun q => yd ?_) (fun q => go (fun _ => q) (Or.inr f)))⟩
        rw [ed]
        exact br_f (by decide) ⟨ic, br_f f (br_t q ⟨rfl, II⟩)⟩
