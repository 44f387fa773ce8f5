/-! ===== Y's moves ===== -/
section
variable {y_classes y_methods y_rules y_place y_named y_made y_namedMethods y_live y_built y_depth y_steps y_outs y_ending : Int32} {y_isInterface y_isAbstract y_parent y_ancestors y_own y_many y_home y_name y_length y_op y_first y_second y_ruleKind y_ruleClasses y_ruleNames y_inlined y_number y_newName y_family y_vMethod y_vLine y_vHeld y_put : Nat → Int32} {x_isInterfaceClass x_ancestorsOf x_interfacesOf x_homeOf x_ruleKind x_ruleClasses x_ruleNames : Nat → Int32} {C M w : Nat} {post : Int32 → SY → Prop} {s o e : Nat} {vm vl vh oi : Nat → Int32}
theorem y_go {n : Nat} (hw : w < 2) (h : ∀ P : SY → Prop, (∀ {y_classes y_methods y_rules y_place y_named y_made y_namedMethods y_live y_built y_depth y_steps y_outs y_ending : Int32} {y_isInterface y_isAbstract y_parent y_ancestors y_own y_many y_home y_name y_length y_op y_first y_second y_ruleKind y_ruleClasses y_ruleNames y_inlined y_number y_newName y_family y_vMethod y_vLine y_vHeld y_put : Nat → Int32}, wY_run_162 post (nI w) n y_classes y_methods y_rules y_place y_named y_made y_namedMethods y_live y_built y_depth y_steps y_outs y_ending y_isInterface y_isAbstract y_parent y_ancestors y_own y_many y_home y_name y_length y_op y_first y_second y_ruleKind y_ruleClasses y_ruleNames y_inlined y_number y_newName y_family y_vMethod y_vLine y_vHeld y_put → P (y_classes, y_methods, y_rules, y_place, y_named, y_made, y_namedMethods, y_live, y_built, y_depth, y_steps, y_outs, y_ending, y_isInterface, y_isAbstract, y_parent, y_ancestors, y_own, y_many, y_home, y_name, y_length, y_op, y_first, y_second, y_ruleKind, y_ruleClasses, y_ruleNames, y_inlined, y_number, y_newName, y_family, y_vMethod, y_vLine, y_vHeld, y_put)) → wpY_goOn P (nI C, nI M, y_rules, y_place, y_named, y_made, y_namedMethods, y_live, y_built, nI e, nI s, nI o, -1, x_isInterfaceClass, y_isAbstract, y_parent, x_ancestorsOf, x_interfacesOf, y_many, x_homeOf, y_name, y_length, y_op, y_first, y_second, x_ruleKind, x_ruleClasses, x_ruleNames, y_inlined, y_number, y_newName, y_family, vm, vl, vh, oi) (nI w)) : wY_run_162 post (nI w) (n + 1) (nI C) (nI M) y_rules y_place y_named y_made y_namedMethods y_live y_built (nI e) (nI s) (nI o) (-1) x_isInterfaceClass y_isAbstract y_parent x_ancestorsOf x_interfacesOf y_many x_homeOf y_name y_length y_op y_first y_second x_ruleKind x_ruleClasses x_ruleNames y_inlined y_number y_newName y_family vm vl vh oi := by
  rw [wY_run_162]
  refine br_f (by decide) ?_
  rcases (by omega : w = 0 ∨ w = 1) with z | z
  · subst z
    refine br_f (by decide) ?_
    unfold wY_run_180
    exact h _ (fun q => q)
  · subst z
    refine br_t rfl ?_
    unfold wY_run_180
    exact h _ (fun q => q)
/-- the end of a run -/
theorem y_end {x : Int32} (hx : 0 ≤ x) (hp : post x (nI C, nI M, y_rules, y_place, y_named, y_made, y_namedMethods, y_live, y_built, nI e, nI s, nI o, x, x_isInterfaceClass, y_isAbstract, y_parent, x_ancestorsOf, x_interfacesOf, y_many, x_homeOf, y_name, y_length, y_op, y_first, y_second, x_ruleKind, x_ruleClasses, x_ruleNames, y_inlined, y_number, y_newName, y_family, vm, vl, vh, oi)) : ∃ n, wY_run_162 post (nI w) n (nI C) (nI M) y_rules y_place y_named y_made y_namedMethods y_live y_built (nI e) (nI s) (nI o) x x_isInterfaceClass y_isAbstract y_parent x_ancestorsOf x_interfacesOf y_many x_homeOf y_name y_length y_op y_first y_second x_ruleKind x_ruleClasses x_ruleNames y_inlined y_number y_newName y_family vm vl vh oi := ⟨1, by
  rw [wY_run_162]
  exact br_t hx hp⟩
theorem y_done (hw : w < 2) (hp : post 0 (nI C, nI M, y_rules, y_place, y_named, y_made, y_namedMethods, y_live, y_built, nI 0, nI s, nI o, 0, x_isInterfaceClass, y_isAbstract, y_parent, x_ancestorsOf, x_interfacesOf, y_many, x_homeOf, y_name, y_length, y_op, y_first, y_second, x_ruleKind, x_ruleClasses, x_ruleNames, y_inlined, y_number, y_newName, y_family, vm, vl, vh, oi)) : ∃ n, wY_run_162 post (nI w) n (nI C) (nI M) y_rules y_place y_named y_made y_namedMethods y_live y_built (nI 0) (nI s) (nI o) (-1) x_isInterfaceClass y_isAbstract y_parent x_ancestorsOf x_interfacesOf y_many x_homeOf y_name y_length y_op y_first y_second x_ruleKind x_ruleClasses x_ruleNames y_inlined y_number y_newName y_family vm vl vh oi := by
  obtain ⟨n, hn⟩ := y_end (w := w) (x := 0) (by decide) hp
  refine ⟨n + 1, y_go hw (fun P hP => ?_)⟩
  unfold wpY_goOn
  dsimp only
  exact nm_e (br_t rfl (hP hn))
theorem y_pop (hw : w < 2) {m : Nat} (e8 : e < 8) (em : vm e = nI m) (m30 : m < 30) (fin : ¬ vl e < y_length m)
    (G : ∃ n, wY_run_162 post (nI w) n (nI C) (nI M) y_rules y_place y_named y_made y_namedMethods y_live y_built (nI e) (nI s) (nI o) (-1) x_isInterfaceClass y_isAbstract y_parent x_ancestorsOf x_interfacesOf y_many x_homeOf y_name y_length y_op y_first y_second x_ruleKind x_ruleClasses x_ruleNames y_inlined y_number y_newName y_family vm (if e = 0 then vl else upd vl (e - 1) (vl (e - 1) + 1)) vh oi) :
    ∃ n, wY_run_162 post (nI w) n (nI C) (nI M) y_rules y_place y_named y_made y_namedMethods y_live y_built (nI (e + 1)) (nI s) (nI o) (-1) x_isInterfaceClass y_isAbstract y_parent x_ancestorsOf x_interfacesOf y_many x_homeOf y_name y_length y_op y_first y_second x_ruleKind x_ruleClasses x_ruleNames y_inlined y_number y_newName y_family vm vl vh oi := by
  obtain ⟨n, hn⟩ := G
  refine ⟨n + 1, y_go hw (fun P hP => ?_)⟩
  have i8 : vp_in (nI e) 8 := vp_in_nI e8 (by decide)
  unfold wpY_goOn
  dsimp only
  refine nm_r (nI_pred e) (br_f (nI_ne0 (by omega) (by omega)) ⟨i8, i8, ?_⟩)
  rw [nI_c (show e < 10000 by omega), em, nI_c (show m < 10000 by omega)]
  refine ⟨vp_in_nI m30 (by decide), br_f fin (nm_r (nI_pred e) ?_)⟩
  rcases Nat.eq_zero_or_pos e with z | z
  · subst z
    rw [if_pos rfl] at hn
    exact br_t (by decide) (hP hn)
  · rw [if_neg (by omega)] at hn
    obtain ⟨f, rfl⟩ : ∃ f, e = f + 1 := ⟨e - 1, by omega⟩
    have i8' : vp_in (nI f) 8 := vp_in_nI (by omega) (by decide)
    rw [nI_pred, nI_c (show f < 10000 by omega)]
    exact br_f (nI_nle (by omega) (by omega)) ⟨i8', i8', nm_e (hP hn)⟩
theorem y_long (hw : w < 2) {m : Nat} (e8 : e < 8) (em : vm e = nI m) (m30 : m < 30) (un : vl e < y_length m) (s2 : s = 200) (hp : post 5 (nI C, nI M, y_rules, y_place, y_named, y_made, y_namedMethods, y_live, y_built, nI (e + 1), nI s, nI o, 5, x_isInterfaceClass, y_isAbstract, y_parent, x_ancestorsOf, x_interfacesOf, y_many, x_homeOf, y_name, y_length, y_op, y_first, y_second, x_ruleKind, x_ruleClasses, x_ruleNames, y_inlined, y_number, y_newName, y_family, vm, vl, vh, oi)) :
    ∃ n, wY_run_162 post (nI w) n (nI C) (nI M) y_rules y_place y_named y_made y_namedMethods y_live y_built (nI (e + 1)) (nI s) (nI o) (-1) x_isInterfaceClass y_isAbstract y_parent x_ancestorsOf x_interfacesOf y_many x_homeOf y_name y_length y_op y_first y_second x_ruleKind x_ruleClasses x_ruleNames y_inlined y_number y_newName y_family vm vl vh oi := by
  obtain ⟨n, hn⟩ := y_end (w := w) (x := 5) (by decide) hp
  refine ⟨n + 1, y_go hw (fun P hP => ?_)⟩
  have i8 : vp_in (nI e) 8 := vp_in_nI e8 (by decide)
  unfold wpY_goOn
  dsimp only
  refine nm_r (nI_pred e) (br_f (nI_ne0 (by omega) (by omega)) ⟨i8, i8, ?_⟩)
  rw [nI_c (show e < 10000 by omega), em, nI_c (show m < 10000 by omega)]
  exact ⟨vp_in_nI m30 (by decide), br_t un (br_t (by rw [s2]; rfl) (hP hn))⟩
theorem y_step (hw : w < 2) {m x : Nat} (e8 : e < 8) (em : vm e = nI m) (m30 : m < 30) (ex : vl e = nI x) (x6 : x < 6) (un : nI x < y_length m) (s2 : s < 200) {n : Nat}
    (h : ∀ P : SY → Prop, (∀ {y_classes y_methods y_rules y_place y_named y_made y_namedMethods y_live y_built y_depth y_steps y_outs y_ending : Int32} {y_isInterface y_isAbstract y_parent y_ancestors y_own y_many y_home y_name y_length y_op y_first y_second y_ruleKind y_ruleClasses y_ruleNames y_inlined y_number y_newName y_family y_vMethod y_vLine y_vHeld y_put : Nat → Int32}, wY_run_162 post (nI w) n y_classes y_methods y_rules y_place y_named y_made y_namedMethods y_live y_built y_depth y_steps y_outs y_ending y_isInterface y_isAbstract y_parent y_ancestors y_own y_many y_home y_name y_length y_op y_first y_second y_ruleKind y_ruleClasses y_ruleNames y_inlined y_number y_newName y_family y_vMethod y_vLine y_vHeld y_put → P (y_classes, y_methods, y_rules, y_place, y_named, y_made, y_namedMethods, y_live, y_built, y_depth, y_steps, y_outs, y_ending, y_isInterface, y_isAbstract, y_parent, y_ancestors, y_own, y_many, y_home, y_name, y_length, y_op, y_first, y_second, y_ruleKind, y_ruleClasses, y_ruleNames, y_inlined, y_number, y_newName, y_family, y_vMethod, y_vLine, y_vHeld, y_put)) → wpY_step P (nI C, nI M, y_rules, y_place, y_named, y_made, y_namedMethods, y_live, y_built, nI (e + 1), nI (s + 1), nI o, -1, x_isInterfaceClass, y_isAbstract, y_parent, x_ancestorsOf, x_interfacesOf, y_many, x_homeOf, y_name, y_length, y_op, y_first, y_second, x_ruleKind, x_ruleClasses, x_ruleNames, y_inlined, y_number, y_newName, y_family, vm, vl, vh, oi) (nI w) (nI e) (nI (6 * m + x))) :
    ∃ n, wY_run_162 post (nI w) n (nI C) (nI M) y_rules y_place y_named y_made y_namedMethods y_live y_built (nI (e + 1)) (nI s) (nI o) (-1) x_isInterfaceClass y_isAbstract y_parent x_ancestorsOf x_interfacesOf y_many x_homeOf y_name y_length y_op y_first y_second x_ruleKind x_ruleClasses x_ruleNames y_inlined y_number y_newName y_family vm vl vh oi := by
  refine ⟨n + 1, y_go hw (fun P hP => ?_)⟩
  have i8 : vp_in (nI e) 8 := vp_in_nI e8 (by decide)
  unfold wpY_goOn
  dsimp only
  refine nm_r (nI_pred e) (br_f (nI_ne0 (by omega) (by omega)) ⟨i8, i8, ?_⟩)
  rw [nI_c (show e < 10000 by omega), em, nI_c (show m < 10000 by omega), ex, nI_a6]
  exact ⟨vp_in_nI m30 (by decide), br_t un (br_f (fun z => by have := (nI_eq (a := s) (b := 200) (by omega) (by omega)).mp z; omega) (nm_r (nI_1 s) ⟨i8, i8, h _ (fun q => hP q)⟩))⟩
end
