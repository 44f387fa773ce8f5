/-! ===== what the new program holds: stays, line ===== -/
theorem in_bl {C M : Nat} {anc chn hom yabs yname ylen yop yfi yse inl : Nat → Int32} {D Lv : Int32} (h : ∀ m k, m < M → k < 6 → il_p C M anc chn hom yabs yname ylen yop yfi yse D Lv m k (inl (6 * m + k))) {m k : Nat} (hm : m < M) (hk : k < 6) :
    (inl (6 * m + k) = -1) ∨ ∃ t, t < M ∧ inl (6 * m + k) = nI t ∧ hq_t (ylen t) ≤ 3 ∧ (∀ i, i < hq_t (ylen t) → yop (6 * t + i) = 0 ∨ yop (6 * t + i) = 5) ∧ (yop (6 * m + k) = 2 ∨ yop (6 * m + k) = 3) := by
  rcases h m k hm hk with ⟨e, _⟩ | ⟨t, e, it⟩
  · exact Or.inl e
  · refine Or.inr ⟨t, it.2.2.1, e, it.2.2.2.2.2.1, it.2.2.2.2.2.2.1, ?_⟩
    rcases it.2.2.2.2.2.2.2 with z | z
    · exact Or.inr z.1
    · exact Or.inl z.1
section
variable {y_classes y_methods y_rules y_place y_named y_made y_namedMethods y_live y_built y_depth y_steps y_outs y_ending : Int32} {y_isInterface y_isAbstract y_parent y_ancestors y_own y_many y_home y_name y_length y_op y_first y_second y_ruleKind y_ruleClasses y_ruleNames y_inlined y_number y_newName y_family y_vMethod y_vLine y_vHeld y_put : Nat → Int32} {M : Nat} {inl : Nat → Int32}
theorem yg_v (h30 : M ≤ 30) (hl : ∀ m, m < M → y_length m = nI (hq_t (y_length m)) ∧ hq_t (y_length m) ≤ 6) (hi : in_ok M inl y_length) (he : ∀ m k, m < M → k < 6 → y_inlined (6 * m + k) = inl (6 * m + k)) {post : Int32 → Prop} {m x : Nat} (hm : m < M) (hx : x < hq_t (y_length m))
    (hp : post (nI (gy_n inl y_length m x))) : wpY_grown post (y_classes, y_methods, y_rules, y_place, y_named, y_made, y_namedMethods, y_live, y_built, y_depth, y_steps, y_outs, y_ending, y_isInterface, y_isAbstract, y_parent, y_ancestors, y_own, y_many, y_home, y_name, y_length, y_op, y_first, y_second, y_ruleKind, y_ruleClasses, y_ruleNames, y_inlined, y_number, y_newName, y_family, y_vMethod, y_vLine, y_vHeld, y_put) (nI (6 * m + x)) := by
  have l6 := (hl m hm).2
  have i180 : vp_in (nI (6 * m + x)) 180 := vp_in_nI (by omega) (by decide)
  unfold wpY_grown
  dsimp only
  rw [nI_c (by omega), he m x hm (by omega)]
  refine ⟨i180, ?_⟩
  rcases hi m x hm hx with e | ⟨t, tM, e, l3⟩
  · rw [gy_1 (by rw [e]; decide)] at hp
    rw [e]
    exact br_f (by decide) hp
  · rw [gy_t hx (by rw [e]; exact nI_pos (by omega)), e, hq_e (by omega)] at hp
    rw [e, nI_c (by omega), (hl t tM).1]
    refine br_t (nI_pos' (by omega)) ⟨i180, vp_in_nI (by omega) (by decide), ?_⟩
    show post (nI 1 + nI (hq_t (y_length t)))
    rw [nI_add]
    exact hp
end
theorem i_vc_stays {k : Nat} {u : SX} {v : SY} (I : i_Rel k u v) (hk : k + 5 ≤ 2560) (v1 : Int32) (v2 : Int32) : wpX_stays (fun r => wpY_stays (fun r' => r' = r ∧ i_Rel (k + 5) u v) v v1 v2) u v1 v2 := by
  obtain ⟨x_classCount, x_methodCount, x_ruleCount, x_isBuilt, x_faultPlace, x_namedClasses, x_madeClasses, x_namedMethods, x_liveMethods, x_depth, x_stepCount, x_outCount, x_traceCount, x_isInterfaceClass, x_chainOf, x_interfacesOf, x_ancestorsOf, x_homeOf, x_formOf, x_nameOf, x_lengthOf, x_opOf, x_classOf, x_numberOf, x_sourceMethod, x_sourceLine, x_callLine, x_ruleKind, x_ruleClasses, x_ruleNames, x_newNumber, x_familyOf, x_sightOf, x_frameRow, x_frameLine, x_frameHeld, x_outInts, x_traceMethod, x_traceLine⟩ := u; obtain ⟨y_classes, y_methods, y_rules, y_place, y_named, y_made, y_namedMethods, y_live, y_built, y_depth, y_steps, y_outs, y_ending, y_isInterface, y_isAbstract, y_parent, y_ancestors, y_own, y_many, y_home, y_name, y_length, y_op, y_first, y_second, y_ruleKind, y_ruleClasses, y_ruleNames, y_inlined, y_number, y_newName, y_family, y_vMethod, y_vLine, y_vHeld, y_put⟩ := v; have II := I; obtain ⟨C, M, R, t, o, rfl, rfl, rfl, rfl, rfl, rfl, rfl, rfl, rfl, rfl, rfl, rfl, rfl, rfl, rfl, rfl, rfl, rfl, rfl, rfl, rfl, ho, ht, hp, T, hb⟩ := (I : rl_p x_classCount x_methodCount x_ruleCount x_isBuilt x_faultPlace x_namedClasses x_madeClasses x_namedMethods x_liveMethods x_depth x_stepCount x_outCount x_traceCount x_isInterfaceClass x_chainOf x_interfacesOf x_ancestorsOf x_homeOf x_formOf x_nameOf x_lengthOf x_opOf x_classOf x_numberOf x_sourceMethod x_sourceLine x_callLine x_ruleKind x_ruleClasses x_ruleNames x_newNumber x_familyOf x_sightOf x_frameRow x_frameLine x_frameHeld x_outInts x_traceMethod x_traceLine y_classes y_methods y_rules y_place y_named y_made y_namedMethods y_live y_built y_depth y_steps y_outs y_ending y_isInterface y_isAbstract y_parent y_ancestors y_own y_many y_home y_name y_length y_op y_first y_second y_ruleKind y_ruleClasses y_ruleNames y_inlined y_number y_newName y_family y_vMethod y_vLine y_vHeld y_put)
  have h30 := T.2.2.1.1
  have h10 := T.1.1
  unfold wpX_stays wpY_stays
  dsimp only
  refine br_c (fun b => br_t b ⟨rfl, II⟩) (fun b => ?_)
  obtain ⟨⟨rfl, rfl, rfl, rfl⟩, b1, d1, kept, inl, NF, hI, hin, ml, xb, yn, yf, yw⟩ := hb b
  have hi : in_ok M inl y_length := in_il (fun m hm => (tp_len T hm).2.2) hI
  rcases pk_ix v1 (n := M) (by omega) with z | z | ⟨m, hm, rfl⟩
  · exact br_t z (br_f b (yn_b (by omega) (fun j hj e => absurd z (by rw [e]; exact nI_pos (by omega))) (fun _ => ⟨rfl, II⟩)))
  · exact br_f (ix_0 (by omega) z) (br_f (ix_l z) (br_f b (yn_b (by omega) (fun j hj e => absurd z (by rw [e]; exact nI_ge hj (by omega))) (fun _ => ⟨rfl, II⟩))))
  · have i60 : vp_in (nI (30 + m)) 60 := vp_in_nI (by omega) (by decide)
    have i30 : vp_in (nI m) 30 := vp_in_nI (by omega) (by decide)
    have l6 := (tp_len T hm).2.2
    have p24 := po_24 hi h30 hm l6
    have yin : ∀ {A B : Prop}, B → wpY_in (fun r => (r = 0 → A) ∧ (¬ r = 0 → B)) (nI m) (nI M) := fun b => yn_b (by omega) (fun _ _ _ => b) (fun z => absurd z (fun y => y.elim (nI_pos (by omega)) (nI_ge hm (by omega))))
    have fm := xb.1 m hm
    have lm := xb.2.1 m hm
    have nmm := xb.2.2.2.1 m hm
    refine br_f (nI_pos (by omega)) (br_t (nI_lt hm (by omega)) (nm_r (nI_b30 m) ?_))
    rw [nI_c (show 30 + m < 10000 by omega)]
    rcases pk_ix v2 (n := 3) (by decide) with z | z | ⟨w, hw, rfl⟩
    · have n0 : ¬ v2 = 0 := fun q => by rw [q] at z; exact absurd z (by decide)
      have n1 : ¬ v2 = 1 := fun q => by rw [q] at z; exact absurd z (by decide)
      have n2 : ¬ v2 = 2 := fun q => by rw [q] at z; exact absurd z (by decide)
      refine br_f n0 ⟨i60, br_c (fun _ => br_f b (yin ?_)) (fun _ => br_f n1 (br_f n2 (br_f b (yin ?_))))⟩
      · exact yn_b (n := 3) (by decide) (fun j hj e => absurd z (by rw [e]; exact nI_pos (by omega))) (fun _ => ⟨rfl, II⟩)
      · exact yn_b (n := 3) (by decide) (fun j hj e => absurd z (by rw [e]; exact nI_pos (by omega))) (fun _ => ⟨rfl, II⟩)
    · have n0 : ¬ v2 = 0 := fun q => by rw [q] at z; exact absurd z (by decide)
      have n1 : ¬ v2 = 1 := fun q => by rw [q] at z; exact absurd z (by decide)
      have n2 : ¬ v2 = 2 := fun q => by rw [q] at z; exact absurd z (by decide)
      refine br_f n0 ⟨i60, br_c (fun _ => br_f b (yin ?_)) (fun _ => br_f n1 (br_f n2 (br_f b (yin ?_))))⟩
      · exact yn_b (n := 3) (by decide) (fun j hj e => absurd z (by rw [e]; exact nI_ge hj (by decide))) (fun _ => ⟨rfl, II⟩)
      · exact yn_b (n := 3) (by decide) (fun j hj e => absurd z (by rw [e]; exact nI_ge hj (by decide))) (fun _ => ⟨rfl, II⟩)
    · have in3 : ∀ {A B : Prop}, B → wpY_in (fun r => (r = 0 → A) ∧ (¬ r = 0 → B)) (nI w) 3 := fun b => yn_b (n := 3) (by decide) (fun _ _ _ => b) (fun z => absurd z (fun y => y.elim (nI_pos (by omega)) (nI_ge hw (by decide))))
      have fz : x_formOf (30 + m) = 0 ↔ ¬ bt x_namedMethods m = true := by
        rw [fm]
        by_cases l : bt x_liveMethods m = true
        · rw [if_pos l]; exact ⟨fun q => absurd q (by decide), fun q => absurd (ml.1 m l) q⟩
        · rw [if_neg l]
          by_cases n : bt x_namedMethods m = true
          · rw [if_pos n]; exact ⟨fun q => absurd q (by decide), fun q => absurd n q⟩
          · rw [if_neg n]; exact ⟨fun _ => n, fun _ => rfl⟩
      rcases (by omega : w = 0 ∨ w = 1 ∨ w = 2) with q | q | q
      · subst q
        refine br_t rfl ⟨i60, br_f b (yin (in3 (br_t rfl ?_)))⟩
        rw [fm]
        refine yb_b (by omega) (fun l => ?_) (fun l => yR_b ml.1 (by omega) (fun n => ?_) (fun n => ?_))
        · rw [if_pos l]; exact ⟨rfl, II⟩
        · rw [if_neg l, if_pos n]; exact ⟨rfl, II⟩
        · rw [if_neg l, if_neg n]; exact ⟨rfl, II⟩
      · subst q
        refine br_f (by decide) ⟨i60, ek_if fz (fun n => br_f b (yin (in3 (br_f (by decide) (yR_b ml.1 (by omega) (fun q => absurd q n) (fun _ => ⟨rfl, II⟩)))))) (fun n => ?_)⟩
        refine br_t rfl ⟨i60, br_f b (yin (in3 (br_f (by decide) (yR_b ml.1 (by omega) (fun _ => br_t rfl ?_) (fun q => absurd q n)))))⟩
        unfold wpY_nameOf
        dsimp only
        have kl := kn_le (C := C) (M := M) (anc := x_ancestorsOf) (hom := x_homeOf) (nam := y_name) (N := x_namedClasses) (Q := x_namedMethods) m
        rw [nI_c (show m < 10000 by omega), yf m hm, nI_c (by omega)]
        refine ⟨i30, vp_in_nI (by omega) (by decide), ?_, II⟩
        rw [nmm, yw _ (by omega)]
      · subst q
        refine br_f (by decide) ⟨i60, ek_if fz (fun n => br_f b (yin (in3 (br_f (by decide) (yR_b ml.1 (by omega) (fun q => absurd q n) (fun _ => ⟨rfl, II⟩)))))) (fun n => ?_)⟩
        refine br_f (by decide) (br_t rfl ⟨i60, br_f b (yin (in3 (br_f (by decide) (yR_b ml.1 (by omega) (fun _ => br_f (by decide) (nm_r (nI_m6 m) ⟨hq_t (y_length m) + 1, ?_⟩)) (fun q => absurd q n)))))⟩)
        obtain ⟨_, l2, _⟩ := tp_len T hm
        have lo : ∀ q x f, x + q = hq_t (y_length m) → q < f → (bt x_liveMethods m = true ∨ x = 0) → wY_stays_90 (fun r' => r' = x_lengthOf (30 + m) ∧ i_Rel (k + 5) (nI C, nI M, nI R, x_isBuilt, x_faultPlace, x_namedClasses, x_madeClasses, x_namedMethods, x_liveMethods, x_depth, x_stepCount, nI o, nI t, x_isInterfaceClass, x_chainOf, x_interfacesOf, x_ancestorsOf, x_homeOf, x_formOf, x_nameOf, x_lengthOf, x_opOf, x_classOf, x_numberOf, x_sourceMethod, x_sourceLine, x_callLine, x_ruleKind, x_ruleClasses, x_ruleNames, x_newNumber, x_familyOf, x_sightOf, x_frameRow, x_frameLine, x_frameHeld, x_outInts, x_traceMethod, x_traceLine) (nI C, nI M, nI R, x_faultPlace, x_namedClasses, x_madeClasses, x_namedMethods, x_liveMethods, x_isBuilt, nI t, x_stepCount, nI o, y_ending, x_isInterfaceClass, y_isAbstract, y_parent, x_ancestorsOf, x_interfacesOf, y_many, x_homeOf, y_name, y_length, y_op, y_first, y_second, x_ruleKind, x_ruleClasses, x_ruleNames, y_inlined, y_number, y_newName, y_family, y_vMethod, y_vLine, y_vHeld, x_outInts)) (nI m) (nI C) (nI M) (nI R) x_faultPlace x_namedClasses x_madeClasses x_namedMethods x_liveMethods x_isBuilt (nI t) x_stepCount (nI o) y_ending x_isInterfaceClass y_isAbstract y_parent x_ancestorsOf x_interfacesOf y_many x_homeOf y_name y_length y_op y_first y_second x_ruleKind x_ruleClasses x_ruleNames y_inlined y_number y_newName y_family y_vMethod y_vLine y_vHeld x_outInts f (nI (po_n inl y_length m x)) (nI (6 * m + x)) := by
          intro q
          induction q with
          | zero =>
            intro x f e hf lv
            obtain ⟨f, rfl⟩ : ∃ q, f = q + 1 := ⟨f - 1, by omega⟩
            have e : x = hq_t (y_length m) := by omega
            rw [wY_stays_90]
            refine ⟨i30, ?_⟩
            rw [nI_c (show m < 10000 by omega), l2, nI_a6]
            refine br_t (nI_le (by omega) (by omega)) ⟨?_, II⟩
            rw [lm]
            rcases lv with lv | lv
            · rw [if_pos lv, e]
            · by_cases l : bt x_liveMethods m = true
              · rw [if_pos l, e]
              · rw [if_neg l, lv]; rfl
          | succ q ih =>
            intro x f e hf lv
            obtain ⟨f, rfl⟩ : ∃ q, f = q + 1 := ⟨f - 1, by omega⟩
            rw [wY_stays_90]
            refine ⟨i30, ?_⟩
            rw [nI_c (show m < 10000 by omega), l2, nI_a6]
            refine br_f (nI_ge (by omega) (by omega)) (yb_b (by omega) (fun l => ?_) (fun l => ?_))
            · refine yg_v h30 (fun m hm => ⟨(tp_len T hm).2.1, (tp_len T hm).2.2⟩) hi hin hm (by omega) (nm_r (nI_add _ _) (nm_r (nI_1 _) ?_))
              exact ih (x + 1) f (by omega) (by omega) (Or.inl l)
            · rcases lv with lv | lv
              · exact absurd lv l
              · rw [lm, if_neg l, lv]; exact ⟨rfl, II⟩
        exact lo (hq_t (y_length m)) 0 _ (by omega) (by omega) (Or.inr rfl)
