/-! ===== Y's search ===== -/
section
variable {y_classes y_methods y_rules y_place y_named y_made y_namedMethods y_live y_built y_depth y_steps y_outs y_ending : Int32} {y_isInterface y_isAbstract y_parent y_ancestors y_own y_many y_home y_name y_length y_op y_first y_second y_ruleKind y_ruleClasses y_ruleNames y_inlined y_number y_newName y_family y_vMethod y_vLine y_vHeld y_put : Nat → Int32}
theorem yd_l {post : Int32 → Prop} {M c : Nat} {n : Int32} (h30 : M ≤ 30) (hc : c < 10) (ho : ∀ m, m < M → y_home m = nI (hq_t (y_home m)) ∧ hq_t (y_home m) < 10) (hM : y_methods = nI M)
    (hp : post (oI (dc_v M y_home (fun m => decide (y_name m = n)) c))) :
    ∀ k i f, i + k = M → k < f → (∀ j, j < i → ¬ (decide (hq_t (y_home j) = c) && decide (y_name j = n)) = true) → wY_declared_2 post (nI c) n y_classes y_methods y_rules y_place y_named y_made y_namedMethods y_live y_built y_depth y_steps y_outs y_ending y_isInterface y_isAbstract y_parent y_ancestors y_own y_many y_home y_name y_length y_op y_first y_second y_ruleKind y_ruleClasses y_ruleNames y_inlined y_number y_newName y_family y_vMethod y_vLine y_vHeld y_put f (nI i) := by
  intro k
  induction k with
  | zero =>
    intro i f e hf no
    obtain ⟨f, rfl⟩ : ∃ q, f = q + 1 := ⟨f - 1, by omega⟩
    have e : i = M := by omega
    subst e
    rw [wY_declared_2, hM]
    refine br_t (nI_le (Nat.le_refl _) (by omega)) ?_
    unfold dc_v at hp
    rw [sc_fN no] at hp
    exact hp
  | succ k ih =>
    intro i f e hf no
    obtain ⟨f, rfl⟩ : ∃ q, f = q + 1 := ⟨f - 1, by omega⟩
    have nx : ¬ (decide (hq_t (y_home i) = c) && decide (y_name i = n)) = true → wY_declared_2 post (nI c) n y_classes y_methods y_rules y_place y_named y_made y_namedMethods y_live y_built y_depth y_steps y_outs y_ending y_isInterface y_isAbstract y_parent y_ancestors y_own y_many y_home y_name y_length y_op y_first y_second y_ruleKind y_ruleClasses y_ruleNames y_inlined y_number y_newName y_family y_vMethod y_vLine y_vHeld y_put f (nI (i + 1)) := fun y =>
      ih (i + 1) f (by omega) (by omega) (fun j hj => by
        rcases Nat.lt_or_ge j i with z | z
        · exact no j z
        · have : j = i := by omega
          subst this; exact y)
    have hi := ho i (by omega)
    rw [wY_declared_2]
    refine br_f (by rw [hM]; exact nI_ge (by omega) (by omega)) ⟨vp_in_nI (by omega) (by decide), ?_⟩
    rw [nI_c (by omega), hi.1]
    refine pk_eq (hq_t (y_home i)) c (fun z => ⟨vp_in_nI (by omega) (by decide), ?_⟩) (fun z => nm_r (nI_1 i) (nx (fun q => z (of_decide_eq_true (bb_a.mp q).1))))
    refine br_c (fun y => ?_) (fun y => nm_r (nI_1 i) (nx (fun q => y (of_decide_eq_true (bb_a.mp q).2))))
    unfold dc_v at hp
    rw [sc_fI (m := i) (by omega) (bb_a.mpr ⟨decide_eq_true z, decide_eq_true y⟩) no] at hp
    exact hp
theorem yd_v {post : Int32 → Prop} {M c : Nat} {n : Int32} (h30 : M ≤ 30) (hc : c < 10) (ho : ∀ m, m < M → y_home m = nI (hq_t (y_home m)) ∧ hq_t (y_home m) < 10) (hM : y_methods = nI M)
    (hp : post (oI (dc_v M y_home (fun m => decide (y_name m = n)) c))) : wpY_declared post (y_classes, y_methods, y_rules, y_place, y_named, y_made, y_namedMethods, y_live, y_built, y_depth, y_steps, y_outs, y_ending, y_isInterface, y_isAbstract, y_parent, y_ancestors, y_own, y_many, y_home, y_name, y_length, y_op, y_first, y_second, y_ruleKind, y_ruleClasses, y_ruleNames, y_inlined, y_number, y_newName, y_family, y_vMethod, y_vLine, y_vHeld, y_put) (nI c) n := by
  unfold wpY_declared
  exact ⟨M + 1, yd_l h30 hc ho hM hp M 0 (M + 1) (by omega) (by omega) (fun j hj => by omega)⟩
theorem mh_10 {C M : Nat} {hom : Nat → Int32} (g : mh_ok C M hom) (hC : C ≤ 10) : ∀ m, m < M → hom m = nI (hq_t (hom m)) ∧ hq_t (hom m) < 10 := fun m hm => by
  have := mh_h g hC hm
  exact ⟨this.1, by omega⟩
theorem dc_b {M c m : Nat} {hom : Nat → Int32} {q : Nat → Bool} (h30 : M ≤ 30) (h : dc_v M hom q c = some m) : m < 30 := by
  have := (sc_fe h).1
  omega
theorem oI_lt {o : Option Nat} (h : ∀ m, o = some m → m < 2 ^ 31) {A B : Prop} (n : o = none → A) (s : ∀ m, o = some m → B) : (oI o < 0 → A) ∧ (¬ oI o < 0 → B) := by
  cases e : o with
  | none => exact br_t (by decide) (n e)
  | some m => exact br_f (nI_pos (h m e)) (s m e)
theorem yf_a {post : Int32 → Prop} {C M c : Nat} {n : Int32} (hC : C ≤ 10) (g : mh_ok C M y_home) (hc : c < C) (hCC : y_classes = nI C) (hM : y_methods = nI M)
    (hp : post (oI (sc_f (fun m => decide (y_name m = n) && bt (y_ancestors c) (hq_t (y_home m))) M))) :
    ∀ k i f, i + k = C → k < f → (∀ e, e < i → bt (y_ancestors c) e = true → dc_v M y_home (fun m => decide (y_name m = n)) e = none) → wY_finds_34 post (nI c) n y_classes y_methods y_rules y_place y_named y_made y_namedMethods y_live y_built y_depth y_steps y_outs y_ending y_isInterface y_isAbstract y_parent y_ancestors y_own y_many y_home y_name y_length y_op y_first y_second y_ruleKind y_ruleClasses y_ruleNames y_inlined y_number y_newName y_family y_vMethod y_vLine y_vHeld y_put f (nI i) := by
  have h30 := g.1
  intro k
  induction k with
  | zero =>
    intro i f e hf no
    obtain ⟨f, rfl⟩ : ∃ q, f = q + 1 := ⟨f - 1, by omega⟩
    have e : i = C := by omega
    subst e
    rw [wY_finds_34, hCC]
    refine br_t (nI_le (Nat.le_refl _) (by omega)) ?_
    rw [an_n g hC no] at hp
    exact hp
  | succ k ih =>
    intro i f e hf no
    obtain ⟨f, rfl⟩ : ∃ q, f = q + 1 := ⟨f - 1, by omega⟩
    have nx : (bt (y_ancestors c) i = true → dc_v M y_home (fun m => decide (y_name m = n)) i = none) → wY_finds_34 post (nI c) n y_classes y_methods y_rules y_place y_named y_made y_namedMethods y_live y_built y_depth y_steps y_outs y_ending y_isInterface y_isAbstract y_parent y_ancestors y_own y_many y_home y_name y_length y_op y_first y_second y_ruleKind y_ruleClasses y_ruleNames y_inlined y_number y_newName y_family y_vMethod y_vLine y_vHeld y_put f (nI (i + 1)) := fun y =>
      ih (i + 1) f (by omega) (by omega) (fun j hj b => by
        rcases Nat.lt_or_ge j i with z | z
        · exact no j z b
        · have : j = i := by omega
          subst this; exact y b)
    rw [wY_finds_34]
    refine br_f (by rw [hCC]; exact nI_ge (by omega) (by omega)) ⟨vp_in_nI (by omega) (by decide), ?_⟩
    rw [nI_c (show c < 10000 by omega)]
    refine yb_b (by omega) (fun z => ?_) (fun z => ?_)
    · refine yd_v h30 (by omega) (mh_10 g hC) hM ?_
      unfold wY_finds_65
      refine oI_lt (fun m e => by have := dc_b h30 e; omega) (fun e => nm_r (nI_1 i) (nx (fun _ => e))) (fun m e => ?_)
      rw [an_s g no z e] at hp
      rw [e]
      exact hp
    · unfold wY_finds_65
      exact br_t (by decide) (nm_r (nI_1 i) (nx (fun q => absurd q z)))
theorem yf_c {post : Int32 → Prop} {C M c : Nat} {n : Int32} {chn : Nat → Int32} (hh : hi_ok C y_isInterface y_ancestors chn y_parent) (g : mh_ok C M y_home) (un : un_ok M y_home (fun m => decide (y_name m = n)))
    (hc : c < C) (hCC : y_classes = nI C) (hM : y_methods = nI M) (hp : post (oI (fo_v M y_ancestors chn y_home y_name c n))) :
    ∀ d f, d < C → d + 1 < f → sc_l (fun m => decide (y_name m = n) && bt (chn c) (hq_t (y_home m))) M = sc_l (fun m => decide (y_name m = n) && bt (chn d) (hq_t (y_home m))) M →
      wY_finds_2 post (nI c) n y_classes y_methods y_rules y_place y_named y_made y_namedMethods y_live y_built y_depth y_steps y_outs y_ending y_isInterface y_isAbstract y_parent y_ancestors y_own y_many y_home y_name y_length y_op y_first y_second y_ruleKind y_ruleClasses y_ruleNames y_inlined y_number y_newName y_family y_vMethod y_vLine y_vHeld y_put f (nI d) := by
  have h30 := g.1
  have hC := hh.1
  have last : ∀ f, 0 < f → sc_l (fun m => decide (y_name m = n) && bt (chn c) (hq_t (y_home m))) M = none → wY_finds_2 post (nI c) n y_classes y_methods y_rules y_place y_named y_made y_namedMethods y_live y_built y_depth y_steps y_outs y_ending y_isInterface y_isAbstract y_parent y_ancestors y_own y_many y_home y_name y_length y_op y_first y_second y_ruleKind y_ruleClasses y_ruleNames y_inlined y_number y_newName y_family y_vMethod y_vLine y_vHeld y_put f (-1) := by
    intro f hf e
    obtain ⟨f, rfl⟩ : ∃ q, f = q + 1 := ⟨f - 1, by omega⟩
    unfold fo_v fd_v at hp
    rw [e] at hp
    rw [wY_finds_2]
    exact br_t (by decide) ⟨C + 1, yf_a hC g hc hCC hM hp C 0 (C + 1) (by omega) (by omega) (fun e he => by omega)⟩
  intro d
  induction d using Nat.strongRecOn with
  | ind d ih =>
    intro f hd hf se
    obtain ⟨f, rfl⟩ : ∃ q, f = q + 1 := ⟨f - 1, by omega⟩
    rw [wY_finds_2]
    refine br_f (nI_pos (by omega)) (yd_v h30 (by omega) (mh_10 g hC) hM ?_)
    refine oI_lt (fun m e => by have := dc_b h30 e; omega) (fun e => ⟨vp_in_nI (by omega) (by decide), ?_⟩) (fun m e => ?_)
    · rw [nI_c (by omega)]
      rcases ch_n hh hd e with ⟨p1, p2⟩ | ⟨p, p0, p1, p2⟩
      · exact nm_r p1 (last f (by omega) (se.trans p2))
      · exact nm_r p1 (ih p p0 f (by omega) (by omega) (se.trans p2))
    · have v := se.trans (ch_s hh g un hd e)
      unfold fo_v fd_v at hp
      rw [v] at hp
      rw [e]
      exact hp
theorem yf_v {post : Int32 → Prop} {C M c : Nat} {n : Int32} {chn : Nat → Int32} (hh : hi_ok C y_isInterface y_ancestors chn y_parent) (g : mh_ok C M y_home) (un : un_ok M y_home (fun m => decide (y_name m = n)))
    (hc : c < C) (hCC : y_classes = nI C) (hM : y_methods = nI M) (hp : post (oI (fo_v M y_ancestors chn y_home y_name c n))) : wpY_finds post (y_classes, y_methods, y_rules, y_place, y_named, y_made, y_namedMethods, y_live, y_built, y_depth, y_steps, y_outs, y_ending, y_isInterface, y_isAbstract, y_parent, y_ancestors, y_own, y_many, y_home, y_name, y_length, y_op, y_first, y_second, y_ruleKind, y_ruleClasses, y_ruleNames, y_inlined, y_number, y_newName, y_family, y_vMethod, y_vLine, y_vHeld, y_put) (nI c) n := by
  unfold wpY_finds
  exact ⟨c + 2, yf_c hh g un hc hCC hM hp c (c + 2) hc (by omega) rfl⟩
end
