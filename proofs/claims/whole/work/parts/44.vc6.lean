/-! ===== line ===== -/
section
variable {x_classCount x_methodCount x_ruleCount x_isBuilt x_faultPlace x_namedClasses x_madeClasses x_namedMethods x_liveMethods x_depth x_stepCount x_outCount x_traceCount : Int32} {x_isInterfaceClass x_chainOf x_interfacesOf x_ancestorsOf x_homeOf x_formOf x_nameOf x_lengthOf x_opOf x_classOf x_numberOf x_sourceMethod x_sourceLine x_callLine x_ruleKind x_ruleClasses x_ruleNames x_newNumber x_familyOf x_sightOf x_frameRow x_frameLine x_frameHeld x_outInts x_traceMethod x_traceLine : Nat → Int32} {C M : Nat}
theorem xcn_v (h10 : C ≤ 10) (hC : x_classCount = nI C) {post : Int32 → Prop} {v : Int32} (k0 : v < 0 → post (-1)) (k1 : ¬ v < 0 → post (oI (sc_f (fun c => decide (x_newNumber c = v)) C))) : wpX_classNumbered post (x_classCount, x_methodCount, x_ruleCount, x_isBuilt, x_faultPlace, x_namedClasses, x_madeClasses, x_namedMethods, x_liveMethods, x_depth, x_stepCount, x_outCount, x_traceCount, x_isInterfaceClass, x_chainOf, x_interfacesOf, x_ancestorsOf, x_homeOf, x_formOf, x_nameOf, x_lengthOf, x_opOf, x_classOf, x_numberOf, x_sourceMethod, x_sourceLine, x_callLine, x_ruleKind, x_ruleClasses, x_ruleNames, x_newNumber, x_familyOf, x_sightOf, x_frameRow, x_frameLine, x_frameHeld, x_outInts, x_traceMethod, x_traceLine) v := by
  have ge : 0 ≤ v ↔ ¬ v < 0 := by
    rw [Int32.le_iff_toInt_le, Int32.lt_iff_toInt_lt]
    omega
  unfold wpX_classNumbered
  dsimp only
  refine ek_if ge (fun z => ⟨C + 1, ?_⟩) (fun z => k0 (Decidable.byContradiction z))
  have k1 := k1 z
  have lo : ∀ q i f, i + q = C → q < f → (∀ j, j < i → ¬ decide (x_newNumber j = v) = true) → wX_classNumbered_8 post v x_classCount x_methodCount x_ruleCount x_isBuilt x_faultPlace x_namedClasses x_madeClasses x_namedMethods x_liveMethods x_depth x_stepCount x_outCount x_traceCount x_isInterfaceClass x_chainOf x_interfacesOf x_ancestorsOf x_homeOf x_formOf x_nameOf x_lengthOf x_opOf x_classOf x_numberOf x_sourceMethod x_sourceLine x_callLine x_ruleKind x_ruleClasses x_ruleNames x_newNumber x_familyOf x_sightOf x_frameRow x_frameLine x_frameHeld x_outInts x_traceMethod x_traceLine f (nI i) := by
    intro q
    induction q with
    | zero =>
      intro i f e hf no
      obtain ⟨f, rfl⟩ : ∃ q, f = q + 1 := ⟨f - 1, by omega⟩
      have e : i = C := by omega
      subst e
      rw [wX_classNumbered_8]
      rw [sc_fN no] at k1
      exact br_t (by rw [hC]; exact nI_le (by omega) (by omega)) k1
    | succ q ih =>
      intro i f e hf no
      obtain ⟨f, rfl⟩ : ∃ q, f = q + 1 := ⟨f - 1, by omega⟩
      rw [wX_classNumbered_8]
      refine br_f (by rw [hC]; exact nI_ge (by omega) (by omega)) ⟨vp_in_nI (by omega) (by decide), ?_⟩
      rw [nI_c (by omega)]
      refine br_c (fun y => ?_) (fun y => nm_r (nI_1 i) (ih (i + 1) f (by omega) (by omega) (fun j hj => ?_)))
      · rw [sc_fI (m := i) (by omega) (decide_eq_true y) no] at k1
        exact k1
      · rcases Nat.lt_or_ge j i with w | w
        · exact no j w
        · have : j = i := by omega
          subst this; exact fun q => y (of_decide_eq_true q)
  exact lo C 0 (C + 1) (by omega) (by omega) (fun j hj => by omega)
end
section
variable {y_classes y_methods y_rules y_place y_named y_made y_namedMethods y_live y_built y_depth y_steps y_outs y_ending : Int32} {y_isInterface y_isAbstract y_parent y_ancestors y_own y_many y_home y_name y_length y_op y_first y_second y_ruleKind y_ruleClasses y_ruleNames y_inlined y_number y_newName y_family y_vMethod y_vLine y_vHeld y_put : Nat → Int32} {chn xform xname xlen xop xcl xnu xsm xsl xca : Nat → Int32} {C M R : Nat}
theorem ycn_v (h10 : C ≤ 10) (hC : y_classes = nI C) {post : Int32 → Prop} {v : Int32} (k1 : post (oI (sc_f (fun c => bt y_named c && decide (y_number c = v)) C))) : wpY_classOf post (y_classes, y_methods, y_rules, y_place, y_named, y_made, y_namedMethods, y_live, y_built, y_depth, y_steps, y_outs, y_ending, y_isInterface, y_isAbstract, y_parent, y_ancestors, y_own, y_many, y_home, y_name, y_length, y_op, y_first, y_second, y_ruleKind, y_ruleClasses, y_ruleNames, y_inlined, y_number, y_newName, y_family, y_vMethod, y_vLine, y_vHeld, y_put) v := by
  have lo : ∀ q i f, i + q = C → q < f → (∀ j, j < i → ¬ (bt y_named j && decide (y_number j = v)) = true) → wY_classOf_2 post v y_classes y_methods y_rules y_place y_named y_made y_namedMethods y_live y_built y_depth y_steps y_outs y_ending y_isInterface y_isAbstract y_parent y_ancestors y_own y_many y_home y_name y_length y_op y_first y_second y_ruleKind y_ruleClasses y_ruleNames y_inlined y_number y_newName y_family y_vMethod y_vLine y_vHeld y_put f (nI i) := by
    intro q
    induction q with
    | zero =>
      intro i f e hf no
      obtain ⟨f, rfl⟩ : ∃ q, f = q + 1 := ⟨f - 1, by omega⟩
      have e : i = C := by omega
      subst e
      rw [wY_classOf_2]
      rw [sc_fN no] at k1
      exact br_t (by rw [hC]; exact nI_le (by omega) (by omega)) k1
    | succ q ih =>
      intro i f e hf no
      obtain ⟨f, rfl⟩ : ∃ q, f = q + 1 := ⟨f - 1, by omega⟩
      have nx : ¬ (bt y_named i && decide (y_number i = v)) = true → wY_classOf_2 post v y_classes y_methods y_rules y_place y_named y_made y_namedMethods y_live y_built y_depth y_steps y_outs y_ending y_isInterface y_isAbstract y_parent y_ancestors y_own y_many y_home y_name y_length y_op y_first y_second y_ruleKind y_ruleClasses y_ruleNames y_inlined y_number y_newName y_family y_vMethod y_vLine y_vHeld y_put f (nI (i + 1)) := fun y => ih (i + 1) f (by omega) (by omega) (fun j hj => by
        rcases Nat.lt_or_ge j i with w | w
        · exact no j w
        · have : j = i := by omega
          subst this; exact y)
      rw [wY_classOf_2]
      refine br_f (by rw [hC]; exact nI_ge (by omega) (by omega)) (yb_b (by omega) (fun b => ⟨vp_in_nI (by omega) (by decide), ?_⟩) (fun b => nm_r (nI_1 i) (nx (fun q => b (bb_a.mp q).1))))
      rw [nI_c (by omega)]
      refine br_c (fun y => ?_) (fun y => nm_r (nI_1 i) (nx (fun q => y (of_decide_eq_true (bb_a.mp q).2))))
      rw [sc_fI (m := i) (by omega) (bb_a.mpr ⟨b, decide_eq_true y⟩) no] at k1
      exact k1
  unfold wpY_classOf
  exact ⟨C + 1, lo C 0 (C + 1) (by omega) (by omega) (fun j hj => by omega)⟩
/-- the new name in Y -/
theorem yw_v (h30 : M ≤ 30) (hf : ∀ m, m < M → ∃ f, f < 30 ∧ y_family m = nI f) {post : Int32 → Prop} {m : Nat} (hm : m < M) (hp : post (y_newName (hq_t (y_family m)))) : wpY_nameOf post (y_classes, y_methods, y_rules, y_place, y_named, y_made, y_namedMethods, y_live, y_built, y_depth, y_steps, y_outs, y_ending, y_isInterface, y_isAbstract, y_parent, y_ancestors, y_own, y_many, y_home, y_name, y_length, y_op, y_first, y_second, y_ruleKind, y_ruleClasses, y_ruleNames, y_inlined, y_number, y_newName, y_family, y_vMethod, y_vLine, y_vHeld, y_put) (nI m) := by
  obtain ⟨f, f30, e⟩ := hf m hm
  rw [e, hq_e (by omega)] at hp
  unfold wpY_nameOf
  dsimp only
  rw [nI_c (by omega), e, nI_c (by omega)]
  exact ⟨vp_in_nI (by omega) (by decide), vp_in_nI (by omega) (by decide), hp⟩
theorem yst_v (h30 : M ≤ 30) (hM : y_methods = nI M) (hl : ss_le y_live y_namedMethods) (ho : ∀ m, m < M → y_home m = nI (hq_t (y_home m)) ∧ hq_t (y_home m) < 10) (hf : ∀ m, m < M → ∃ f, f < 30 ∧ y_family m = nI f) {post : Int32 → Prop} {c : Nat} {n : Int32} (hc : c < 10)
    (hp : post (oI (dc_v M y_home (fun m => bt y_namedMethods m && decide (y_newName (hq_t (y_family m)) = n)) c))) : wpY_standing post (y_classes, y_methods, y_rules, y_place, y_named, y_made, y_namedMethods, y_live, y_built, y_depth, y_steps, y_outs, y_ending, y_isInterface, y_isAbstract, y_parent, y_ancestors, y_own, y_many, y_home, y_name, y_length, y_op, y_first, y_second, y_ruleKind, y_ruleClasses, y_ruleNames, y_inlined, y_number, y_newName, y_family, y_vMethod, y_vLine, y_vHeld, y_put) (nI c) n := by
  have lo : ∀ q i f, i + q = M → q < f → (∀ j, j < i → ¬ (decide (hq_t (y_home j) = c) && (bt y_namedMethods j && decide (y_newName (hq_t (y_family j)) = n))) = true) → wY_standing_2 post (nI c) n y_classes y_methods y_rules y_place y_named y_made y_namedMethods y_live y_built y_depth y_steps y_outs y_ending y_isInterface y_isAbstract y_parent y_ancestors y_own y_many y_home y_name y_length y_op y_first y_second y_ruleKind y_ruleClasses y_ruleNames y_inlined y_number y_newName y_family y_vMethod y_vLine y_vHeld y_put f (nI i) := by
    intro q
    induction q with
    | zero =>
      intro i f e hf' no
      obtain ⟨f, rfl⟩ : ∃ q, f = q + 1 := ⟨f - 1, by omega⟩
      have e : i = M := by omega
      subst e
      rw [wY_standing_2]
      unfold dc_v at hp
      rw [sc_fN no] at hp
      exact br_t (by rw [hM]; exact nI_le (by omega) (by omega)) hp
    | succ q ih =>
      intro i f e hf' no
      obtain ⟨f, rfl⟩ : ∃ q, f = q + 1 := ⟨f - 1, by omega⟩
      have nx : ¬ (decide (hq_t (y_home i) = c) && (bt y_namedMethods i && decide (y_newName (hq_t (y_family i)) = n))) = true → wY_standing_2 post (nI c) n y_classes y_methods y_rules y_place y_named y_made y_namedMethods y_live y_built y_depth y_steps y_outs y_ending y_isInterface y_isAbstract y_parent y_ancestors y_own y_many y_home y_name y_length y_op y_first y_second y_ruleKind y_ruleClasses y_ruleNames y_inlined y_number y_newName y_family y_vMethod y_vLine y_vHeld y_put f (nI (i + 1)) := fun y => ih (i + 1) f (by omega) (by omega) (fun j hj => by
        rcases Nat.lt_or_ge j i with w | w
        · exact no j w
        · have : j = i := by omega
          subst this; exact y)
      have hi := ho i (by omega)
      rw [wY_standing_2]
      refine br_f (by rw [hM]; exact nI_ge (by omega) (by omega)) (yR_b hl (by omega) (fun b => ⟨vp_in_nI (by omega) (by decide), ?_⟩) (fun b => nm_r (nI_1 i) (nx (fun q => b (bb_a.mp (bb_a.mp q).2).1))))
      rw [nI_c (by omega), hi.1]
      refine pk_eq (hq_t (y_home i)) c (fun z => yw_v h30 hf (by omega) (br_c (fun y => ?_) (fun y => nm_r (nI_1 i) (nx (fun q => y (of_decide_eq_true (bb_a.mp (bb_a.mp q).2).2)))))) (fun z => nm_r (nI_1 i) (nx (fun q => z (of_decide_eq_true (bb_a.mp q).1))))
      unfold dc_v at hp
      rw [sc_fI (m := i) (by omega) (bb_a.mpr ⟨decide_eq_true z, bb_a.mpr ⟨b, decide_eq_true y⟩⟩) no] at hp
      exact hp
  unfold wpY_standing
  exact ⟨M + 1, lo M 0 (M + 1) (by omega) (by omega) (fun j hj => by omega)⟩
/-- what a line is told as -/
theorem ytl_v {post : Int32 → Prop} {j o : Nat} {e by_ w : Int32} (hj : j < 180) (ho : y_op j = nI o) (o6 : o < 6)
    (K : ∀ z0, ((o = 0 ∨ o = 5 ∨ (¬ e = 0 ∧ o = 3)) → z0 = 1) → (¬ (o = 0 ∨ o = 5 ∨ (¬ e = 0 ∧ o = 3)) → z0 = 0) → wY_told_42 post (nI j) e by_ w (nI o) (y_first j) z0 y_classes y_methods y_rules y_place y_named y_made y_namedMethods y_live y_built y_depth y_steps y_outs y_ending y_isInterface y_isAbstract y_parent y_ancestors y_own y_many y_home y_name y_length y_op y_first y_second y_ruleKind y_ruleClasses y_ruleNames y_inlined y_number y_newName y_family y_vMethod y_vLine y_vHeld y_put) : wpY_told post (y_classes, y_methods, y_rules, y_place, y_named, y_made, y_namedMethods, y_live, y_built, y_depth, y_steps, y_outs, y_ending, y_isInterface, y_isAbstract, y_parent, y_ancestors, y_own, y_many, y_home, y_name, y_length, y_op, y_first, y_second, y_ruleKind, y_ruleClasses, y_ruleNames, y_inlined, y_number, y_newName, y_family, y_vMethod, y_vLine, y_vHeld, y_put) (nI j) e by_ w := by
  unfold wpY_told
  dsimp only
  rw [nI_c (by omega)]
  have t1 : (o = 0 ∨ o = 5 ∨ (¬ e = 0 ∧ o = 3)) → wY_told_37 post (nI j) e by_ w (nI o) (y_first j) y_classes y_methods y_rules y_place y_named y_made y_namedMethods y_live y_built y_depth y_steps y_outs y_ending y_isInterface y_isAbstract y_parent y_ancestors y_own y_many y_home y_name y_length y_op y_first y_second y_ruleKind y_ruleClasses y_ruleNames y_inlined y_number y_newName y_family y_vMethod y_vLine y_vHeld y_put := fun h => by
    unfold wY_told_37
    exact K 1 (fun _ => rfl) (fun z => absurd h z)
  have t0 : ¬ (o = 0 ∨ o = 5 ∨ (¬ e = 0 ∧ o = 3)) → wY_told_41 post (nI j) e by_ w (nI o) (y_first j) y_classes y_methods y_rules y_place y_named y_made y_namedMethods y_live y_built y_depth y_steps y_outs y_ending y_isInterface y_isAbstract y_parent y_ancestors y_own y_many y_home y_name y_length y_op y_first y_second y_ruleKind y_ruleClasses y_ruleNames y_inlined y_number y_newName y_family y_vMethod y_vLine y_vHeld y_put := fun h => by
    unfold wY_told_41
    exact K 0 (fun z => absurd z h) (fun _ => rfl)
  refine ⟨vp_in_nI hj (by decide), nm_r ho ⟨vp_in_nI hj (by decide), nm_e ?_⟩⟩
  refine pk_eq o 0 (fun z => t1 (Or.inl z)) (fun z0 => pk_eq o 5 (fun z => t1 (Or.inr (Or.inl z))) (fun z5 => br_c (fun e0 => t0 (fun q => q.elim z0 (fun q => q.elim z5 (fun q => q.1 e0)))) (fun e0 => pk_eq o 3 (fun z => t1 (Or.inr (Or.inr ⟨e0, z⟩))) (fun z => t0 (fun q => q.elim z0 (fun q => q.elim z5 (fun q => z q.2)))))))
/-- its value; F: what the call finds, as a name -/
def tv_v (num yfi yse : Nat → Int32) (nn : Int32) (e : Int32) (by_ : Int32) (o : Nat) (m x w : Nat) : Int32 :=
  match w with
  | 0 => if e = 0 then nI o else 6
  | 1 => if o = 0 ∨ o = 5 ∨ (¬ e = 0 ∧ o = 3) then -1 else num (hq_t (yfi (6 * m + x)))
  | 2 => if e = 0 ∧ (o = 2 ∨ o = 3) then nn else if o = 0 then yse (6 * m + x) else 0
  | 3 => nI m
  | 4 => nI x
  | _ => by_
theorem ytv_v (T : tp_p C M R y_isInterface y_ancestors y_own chn y_parent y_many y_home y_ruleKind y_ruleClasses y_ruleNames xform xname xlen y_isAbstract y_name y_length xop xcl xnu xsm xsl xca y_op y_first y_second) (hC : y_classes = nI C) (hM : y_methods = nI M) (hf : ∀ m, m < M → ∃ f, f < 30 ∧ y_family m = nI f) {post : Int32 → Prop} {m x o w : Nat} {e by_ : Int32} (hm : m < M) (x6 : x < 6) (ho : y_op (6 * m + x) = nI o) (o6 : o < 6) (w6 : w < 6)
    (hc : 1 ≤ o → o ≤ 4 → ∃ c, c < C ∧ y_first (6 * m + x) = nI c) {g : Nat} (hg : (o = 2 ∨ o = 3) → fo_v M y_ancestors chn y_home y_name (hq_t (y_first (6 * m + x))) (y_second (6 * m + x)) = some g)
    (hp : post (tv_v y_number y_first y_second (y_newName (hq_t (y_family g))) e by_ o m x w)) : wpY_told post (y_classes, y_methods, y_rules, y_place, y_named, y_made, y_namedMethods, y_live, y_built, y_depth, y_steps, y_outs, y_ending, y_isInterface, y_isAbstract, y_parent, y_ancestors, y_own, y_many, y_home, y_name, y_length, y_op, y_first, y_second, y_ruleKind, y_ruleClasses, y_ruleNames, y_inlined, y_number, y_newName, y_family, y_vMethod, y_vLine, y_vHeld, y_put) (nI (6 * m + x)) e by_ (nI w) := by
  have h30 := T.2.2.1.1
  have h10 := T.1.1
  have e1 : (6 * m + x) / 6 = m := by omega
  have e2 : (6 * m + x) % 6 = x := by omega
  refine ytl_v (by omega) ho o6 (fun z0 k1 k0 => ?_)
  unfold wY_told_42
  refine br_f (nI_pos (by omega)) ?_
  rcases (by omega : w = 0 ∨ w = 1 ∨ w = 2 ∨ w = 3 ∨ w = 4 ∨ w = 5) with q | q | q | q | q | q
  · subst q
    refine br_f (by decide) (br_t rfl (br_c (fun z => ?_) (fun z => ?_)))
    · have : tv_v y_number y_first y_second (y_newName (hq_t (y_family g))) e by_ o m x 0 = nI o := if_pos z
      rw [this] at hp; exact hp
    · have : tv_v y_number y_first y_second (y_newName (hq_t (y_family g))) e by_ o m x 0 = 6 := if_neg z
      rw [this] at hp; exact hp
  · subst q
    refine br_f (by decide) (br_f (by decide) (br_t rfl ?_))
    by_cases n : o = 0 ∨ o = 5 ∨ (¬ e = 0 ∧ o = 3)
    · have : tv_v y_number y_first y_second (y_newName (hq_t (y_family g))) e by_ o m x 1 = -1 := if_pos n
      rw [this] at hp
      rw [k1 n]; exact br_1 hp
    · have : tv_v y_number y_first y_second (y_newName (hq_t (y_family g))) e by_ o m x 1 = y_number (hq_t (y_first (6 * m + x))) := if_neg n
      rw [this] at hp
      obtain ⟨c, cC, ec⟩ := hc (by omega) (by omega)
      rw [ec, hq_e (by omega)] at hp
      rw [k0 n, ec, nI_c (by omega)]
      exact br_0 ⟨vp_in_nI (by omega) (by decide), hp⟩
  · subst q
    refine br_f (by decide) (br_f (by decide) (br_f (by decide) (br_t rfl ?_)))
    have no : ¬ (e = 0 ∧ (o = 2 ∨ o = 3)) → wY_told_140 post (nI (6 * m + x)) (nI o) y_classes y_methods y_rules y_place y_named y_made y_namedMethods y_live y_built y_depth y_steps y_outs y_ending y_isInterface y_isAbstract y_parent y_ancestors y_own y_many y_home y_name y_length y_op y_first y_second y_ruleKind y_ruleClasses y_ruleNames y_inlined y_number y_newName y_family y_vMethod y_vLine y_vHeld y_put := fun n => by
      have : tv_v y_number y_first y_second (y_newName (hq_t (y_family g))) e by_ o m x 2 = if o = 0 then y_second (6 * m + x) else 0 := if_neg n
      rw [this] at hp
      unfold wY_told_140 wY_told_141
      rw [nI_c (by omega)]
      refine pk_eq o 0 (fun z => ?_) (fun z => ?_)
      · rw [if_pos z] at hp; exact ⟨vp_in_nI (by omega) (by decide), hp⟩
      · rw [if_neg z] at hp; exact br_f (by decide) hp
    have yes : e = 0 → (o = 2 ∨ o = 3) → wY_told_125 post (nI (6 * m + x)) (nI o) (y_first (6 * m + x)) y_classes y_methods y_rules y_place y_named y_made y_namedMethods y_live y_built y_depth y_steps y_outs y_ending y_isInterface y_isAbstract y_parent y_ancestors y_own y_many y_home y_name y_length y_op y_first y_second y_ruleKind y_ruleClasses y_ruleNames y_inlined y_number y_newName y_family y_vMethod y_vLine y_vHeld y_put := fun e0 o23 => by
      have : tv_v y_number y_first y_second (y_newName (hq_t (y_family g))) e by_ o m x 2 = y_newName (hq_t (y_family g)) := if_pos ⟨e0, o23⟩
      rw [this] at hp
      obtain ⟨c, cC, ec⟩ := hc (by omega) (by omega)
      have hg := hg o23
      rw [ec, hq_e (by omega)] at hg
      have gM := (fd_s T.1 cC hg).1
      unfold wY_told_125
      rw [nI_c (by omega), ec]
      refine ⟨vp_in_nI (by omega) (by decide), yo_v T hC hM cC ?_⟩
      rw [hg, oI_s]
      unfold wY_told_141
      refine pk_eq o 0 (fun z => by omega) (fun z => br_t (nI_pos' (by omega)) (yw_v h30 hf gM hp))
    exact br_c (fun e0 => pk_eq o 2 (fun z => yes e0 (Or.inl z)) (fun z2 => pk_eq o 3 (fun z => yes e0 (Or.inr z)) (fun z3 => no (fun q => q.2.elim z2 z3)))) (fun e0 => no (fun q => e0 q.1))
  · subst q
    refine br_f (by decide) (br_f (by decide) (br_f (by decide) (br_f (by decide) (br_t rfl ⟨by decide, ?_⟩))))
    rw [nI_d6 (by omega), e1]; exact hp
  · subst q
    refine br_f (by decide) (br_f (by decide) (br_f (by decide) (br_f (by decide) (br_f (by decide) (br_t rfl ⟨by decide, ?_⟩)))))
    rw [nI_r6 (by omega), e2]; exact hp
  · subst q
    exact br_t (by decide) hp
end
