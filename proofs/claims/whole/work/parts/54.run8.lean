/-! ===== running: the told and the new program ===== -/
theorem po_1 (ylen : Nat → Int32) (m : Nat) : ∀ x, po_n (fun _ => -1) ylen m x = x
  | 0 => rfl
  | x + 1 => by
    rw [po_s, po_1 ylen m x, gy_1 (by decide)]
theorem fd_cg {M : Nat} {anc chn hom : Nat → Int32} {b b' : Nat → Bool} {c : Nat} (h : ∀ m, m < M → b m = b' m) : fd_v M anc chn hom b c = fd_v M anc chn hom b' c := by
  unfold fd_v
  rw [sc_lc (p := fun m => b m && bt (chn c) (hq_t (hom m))) (q := fun m => b' m && bt (chn c) (hq_t (hom m))) (fun m hm => congrArg (fun z => z && bt (chn c) (hq_t (hom m))) (h m hm)),
    sc_fc (p := fun m => b m && bt (anc c) (hq_t (hom m))) (q := fun m => b' m && bt (anc c) (hq_t (hom m))) (fun m hm => congrArg (fun z => z && bt (anc c) (hq_t (hom m))) (h m hm))]
section
variable {x_classCount x_methodCount x_ruleCount x_isBuilt x_faultPlace x_namedClasses x_madeClasses x_namedMethods x_liveMethods x_depth x_stepCount x_outCount x_traceCount : Int32} {x_isInterfaceClass x_chainOf x_interfacesOf x_ancestorsOf x_homeOf x_formOf x_nameOf x_lengthOf x_opOf x_classOf x_numberOf x_sourceMethod x_sourceLine x_callLine x_ruleKind x_ruleClasses x_ruleNames x_newNumber x_familyOf x_sightOf x_frameRow x_frameLine x_frameHeld x_outInts x_traceMethod x_traceLine : Nat → Int32} {y_classes y_methods y_rules y_place y_named y_made y_namedMethods y_live y_built y_depth y_steps y_outs y_ending : Int32} {y_isInterface y_isAbstract y_parent y_ancestors y_own y_many y_home y_name y_length y_op y_first y_second y_ruleKind y_ruleClasses y_ruleNames y_inlined y_number y_newName y_family y_vMethod y_vLine y_vHeld y_put : Nat → Int32} {C M R : Nat} {inl : Nat → Int32}
theorem sm_0 (T : tp_p C M R x_isInterfaceClass x_ancestorsOf x_interfacesOf x_chainOf y_parent y_many x_homeOf x_ruleKind x_ruleClasses x_ruleNames x_formOf x_nameOf x_lengthOf y_isAbstract y_name y_length x_opOf x_classOf x_numberOf x_sourceMethod x_sourceLine x_callLine y_op y_first y_second) (NF : ff_v C M x_isInterfaceClass x_ancestorsOf x_chainOf x_homeOf y_isAbstract y_name y_length y_op y_first y_second = none) : sm_p C M 0 (fun _ => -1) y_length y_op y_first y_second x_formOf x_lengthOf x_opOf x_classOf x_numberOf x_sourceMethod x_sourceLine x_callLine y_inlined := by
  have h30 := T.2.2.1.1
  refine ⟨fun m x hm hx => Or.inl rfl, fun m hm hF => ?_, fun m x hm hF hx => ?_⟩
  · rw [Nat.mul_zero, Nat.zero_add, po_1]
    exact (tp_len T hm).1
  · rw [Nat.mul_zero, Nat.zero_add, po_1]
    obtain ⟨o, o6, e1, e2, e3, e4, e5, e50, e5n, e6, e7, e8⟩ := T.2.2.2.2.2.1 m x hm hx
    obtain ⟨o', _, ey, _, g1, _⟩ := xc_c T NF hm hx
    have oo : o' = o := by rw [e2] at ey; exact ((nI_eq (by omega) (by omega)).mp ey).symm
    subst oo
    refine ⟨o', o6, e2, fun a b => ?_, e6, e7, e8, fun _ => ⟨e1, fun a b => ?_, e50⟩, fun n => absurd (show (-1 : Int32) < 0 by decide) n⟩
    · obtain ⟨q, qC, p1, _⟩ := g1 ⟨a, b⟩
      exact ⟨q, qC, p1⟩
    · obtain ⟨q, qC, p1, p2⟩ := g1 ⟨a, b⟩
      rw [p1, p2]
theorem sm_1 {b1 d1 kept : Int32} (T : tp_p C M R x_isInterfaceClass x_ancestorsOf x_interfacesOf x_chainOf y_parent y_many x_homeOf x_ruleKind x_ruleClasses x_ruleNames x_formOf x_nameOf x_lengthOf y_isAbstract y_name y_length x_opOf x_classOf x_numberOf x_sourceMethod x_sourceLine x_callLine y_op y_first y_second) (NF : ff_v C M x_isInterfaceClass x_ancestorsOf x_chainOf x_homeOf y_isAbstract y_name y_length y_op y_first y_second = none) (hI : ∀ m k, m < M → k < 6 → il_p C M x_ancestorsOf x_chainOf x_homeOf y_isAbstract y_name y_length y_op y_first y_second b1 d1 m k (inl (6 * m + k))) (hin : ∀ m k, m < M → k < 6 → y_inlined (6 * m + k) = inl (6 * m + k))
    (xb : xb_p C M R x_ancestorsOf x_chainOf x_homeOf x_ruleClasses x_ruleNames y_name y_length y_op y_first y_second inl x_namedClasses x_namedMethods x_liveMethods kept x_formOf x_nameOf x_lengthOf x_opOf x_classOf x_numberOf x_sourceMethod x_sourceLine x_callLine x_newNumber) : sm_p C M 1 inl y_length y_op y_first y_second x_formOf x_lengthOf x_opOf x_classOf x_numberOf x_sourceMethod x_sourceLine x_callLine y_inlined := by
  have h30 := T.2.2.1.1
  have hi : in_ok M inl y_length := in_il (fun m hm => (tp_len T hm).2.2) hI
  have lv : ∀ m, m < M → x_formOf (30 * 1 + m) = 2 → bt x_liveMethods m = true := fun m hm hF => by
    rw [Nat.mul_one, xb.1 m hm] at hF
    by_cases l : bt x_liveMethods m = true
    · exact l
    · rw [if_neg l] at hF
      by_cases n : bt x_namedMethods m = true
      · rw [if_pos n] at hF; exact absurd hF (by decide)
      · rw [if_neg n] at hF; exact absurd hF (by decide)
  refine ⟨hi, fun m hm hF => ?_, fun m x hm hF hx => ?_⟩
  · rw [Nat.mul_one, xb.2.1 m hm, if_pos (lv m hm hF)]
  · have l6 := (tp_len T hm).2.2
    rw [Nat.mul_one]
    obtain ⟨o, o6, e1, e2, e3, e4, e5, e50, e5n, e6, e7, e8⟩ := T.2.2.2.2.2.1 m x hm hx
    obtain ⟨o', _, ey, _, g1, _⟩ := xc_c T NF hm hx
    have oo : o' = o := by rw [e2] at ey; exact ((nI_eq (by omega) (by omega)).mp ey).symm
    subst oo
    obtain ⟨c1, c2, s1, s2, s3⟩ := xb.2.2.1 m hm (lv m hm hF) x hx
    have fi : 1 ≤ o' → o' ≤ 4 → x_classOf (24 * m + x) = y_first (6 * m + x) := fun a b => by
      obtain ⟨q, qC, p1, p2⟩ := g1 ⟨a, b⟩
      rw [p1, p2]
    refine ⟨o', o6, e2, fun a b => ?_, s1, s2, s3, fun n => ?_, fun n => ?_⟩
    · obtain ⟨q, qC, p1, _⟩ := g1 ⟨a, b⟩
      exact ⟨q, qC, p1⟩
    · obtain ⟨q1, q2, q3⟩ := c1 n
      refine ⟨by rw [q1]; exact e1, fun a b => by rw [q2]; exact fi a b, fun z => ?_⟩
      rw [q3]
      unfold rn_v
      rw [if_neg (by rw [e2, z]; decide)]
      exact e50 z
    · obtain ⟨q1, q2, q3, q4⟩ := c2 n
      rcases in_bl hI hm (show x < 6 by omega) with e | ⟨t, tM, et, l3, ops, oo⟩
      · rw [e] at n; exact absurd (by decide) n
      · have ht : hq_t (inl (6 * m + x)) = t := by rw [et]; exact hq_e (by omega)
        refine ⟨rfl, hin m x hm (by omega), q1, ?_, t, tM, et, l3, fun j hj => ?_⟩
        · rw [q2, e1]
          rw [e2] at oo
          rcases oo with z | z
          · have : o' = 2 := (nI_eq (a := o') (b := 2) (by omega) (by omega)).mp z
            subst this
            refine Or.inl ⟨rfl, ?_⟩
            rw [if_neg (by decide)]; exact fi (by omega) (by omega)
          · have : o' = 3 := (nI_eq (a := o') (b := 3) (by omega) (by omega)).mp z
            subst this
            exact Or.inr ⟨rfl, if_pos rfl⟩
        · obtain ⟨r1, r2, r3, r4, r5, r6⟩ := q4 j (by rw [ht]; exact hj)
          rw [ht] at r1 r3
          obtain ⟨p, p6, y1, y2, _, _, _, y50, _⟩ := T.2.2.2.2.2.1 t j tM hj
          refine ⟨p, ?_, y2, by rw [r1]; exact y1, fun z => by rw [r3]; exact y50 z, by rw [r4]; exact et, r5, r6⟩
          rcases ops j hj with z | z
          · rw [y2] at z; exact Or.inl ((nI_eq (a := p) (b := 0) (by omega) (by omega)).mp z)
          · rw [y2] at z; exact Or.inr ((nI_eq (a := p) (b := 5) (by omega) (by omega)).mp z)
/-- what is found and filled, in the told program -/
theorem ft_0 (T : tp_p C M R x_isInterfaceClass x_ancestorsOf x_interfacesOf x_chainOf y_parent y_many x_homeOf x_ruleKind x_ruleClasses x_ruleNames x_formOf x_nameOf x_lengthOf y_isAbstract y_name y_length x_opOf x_classOf x_numberOf x_sourceMethod x_sourceLine x_callLine y_op y_first y_second) {n : Int32} {h : Nat} (hC : h < C) : ft_v M 0 x_ancestorsOf x_chainOf x_homeOf x_formOf x_nameOf n h = (match fo_v M x_ancestorsOf x_chainOf x_homeOf y_name h n with
    | some g => if y_isAbstract g = 0 then some g else none
    | none => none) := by
  have bw : ∀ m, m < M → (decide (¬ x_formOf (30 * 0 + m) = 0) && decide (x_nameOf (30 * 0 + m) = n)) = decide (y_name m = n) := fun m hm => by
    obtain ⟨⟨k, _, e1, e2⟩, _, e3, _⟩ := T.2.2.2.1 m hm
    rw [Nat.mul_zero, Nat.zero_add, e1, e2]
    have : decide (¬ x_formOf m = 0) = true := by
      refine decide_eq_true ?_
      rcases e3 with ⟨_, e⟩ | ⟨_, e⟩ <;> rw [e] <;> decide
    rw [this, Bool.true_and]
  have e : fd_v M x_ancestorsOf x_chainOf x_homeOf (fun m => decide (¬ x_formOf (30 * 0 + m) = 0) && decide (x_nameOf (30 * 0 + m) = n)) h = fo_v M x_ancestorsOf x_chainOf x_homeOf y_name h n := by
    unfold fo_v
    exact fd_cg bw
  unfold ft_v
  rw [e]
  cases ef : fo_v M x_ancestorsOf x_chainOf x_homeOf y_name h n with
  | none => rfl
  | some g =>
    have gM := (fd_s T.1 hC ef).1
    show (if x_formOf (30 * 0 + g) = 2 then some g else none) = (if y_isAbstract g = 0 then some g else none)
    rw [Nat.mul_zero, Nat.zero_add]
    rcases (T.2.2.2.1 g gM).2.2.1 with ⟨a1, a2⟩ | ⟨a1, a2⟩
    · rw [if_pos a2, if_pos a1]
    · rw [if_neg (by rw [a2]; decide), if_neg a1]
/-- found in Y, told program -/
theorem yfd_0 (T : tp_p C M R x_isInterfaceClass x_ancestorsOf x_interfacesOf x_chainOf y_parent y_many x_homeOf x_ruleKind x_ruleClasses x_ruleNames x_formOf x_nameOf x_lengthOf y_isAbstract y_name y_length x_opOf x_classOf x_numberOf x_sourceMethod x_sourceLine x_callLine y_op y_first y_second) {post : Int32 → Prop} {n : Int32} {h : Nat} (hC : h < C) (hp : post (oI (ft_v M 0 x_ancestorsOf x_chainOf x_homeOf x_formOf x_nameOf n h))) : wpY_found post (nI C, nI M, y_rules, y_place, y_named, y_made, y_namedMethods, y_live, y_built, y_depth, y_steps, y_outs, y_ending, x_isInterfaceClass, y_isAbstract, y_parent, x_ancestorsOf, x_interfacesOf, y_many, x_homeOf, y_name, y_length, y_op, y_first, y_second, x_ruleKind, x_ruleClasses, x_ruleNames, y_inlined, y_number, y_newName, y_family, y_vMethod, y_vLine, y_vHeld, y_put) 0 (nI h) n := by
  have h30 := T.2.2.1.1
  rw [ft_0 T hC] at hp
  unfold wpY_found
  dsimp only
  refine br_t rfl (yo_v T rfl rfl hC ?_)
  unfold wY_found_19
  cases ef : fo_v M x_ancestorsOf x_chainOf x_homeOf y_name h n with
  | none => rw [ef] at hp; exact br_t (by decide) hp
  | some g =>
    rw [ef] at hp
    have gM := (fd_s T.1 hC ef).1
    have hp : post (oI (if y_isAbstract g = 0 then some g else none)) := hp
    rw [oI_s, nI_c (show g < 10000 by omega)]
    refine br_f (nI_pos (by omega)) (br_t rfl ⟨vp_in_nI (by omega) (by decide), br_c (fun z => ?_) (fun z => ?_)⟩)
    · rw [if_pos z] at hp; exact hp
    · rw [if_neg z] at hp; exact hp
/-- found in Y, new program -/
theorem yfn_c {post : Int32 → Prop} {c : Nat} {n : Int32} (T : tp_p C M R x_isInterfaceClass x_ancestorsOf x_interfacesOf x_chainOf y_parent y_many x_homeOf x_ruleKind x_ruleClasses x_ruleNames x_formOf x_nameOf x_lengthOf y_isAbstract y_name y_length x_opOf x_classOf x_numberOf x_sourceMethod x_sourceLine x_callLine y_op y_first y_second) (hl : ss_le y_live y_namedMethods) (hf : ∀ m, m < M → ∃ f, f < 30 ∧ y_family m = nI f) (un : un_ok M x_homeOf (fun m => bt y_namedMethods m && decide (y_newName (hq_t (y_family m)) = n)))
    (hp : post (oI (sc_l (fun m => (bt y_namedMethods m && decide (y_newName (hq_t (y_family m)) = n)) && bt (x_chainOf c) (hq_t (x_homeOf m))) M))) :
    ∀ d f, d < C → d + 1 < f → sc_l (fun m => (bt y_namedMethods m && decide (y_newName (hq_t (y_family m)) = n)) && bt (x_chainOf c) (hq_t (x_homeOf m))) M = sc_l (fun m => (bt y_namedMethods m && decide (y_newName (hq_t (y_family m)) = n)) && bt (x_chainOf d) (hq_t (x_homeOf m))) M →
      wY_findsNew_2 post n (nI C) (nI M) y_rules y_place y_named y_made y_namedMethods y_live y_built y_depth y_steps y_outs y_ending x_isInterfaceClass y_isAbstract y_parent x_ancestorsOf x_interfacesOf y_many x_homeOf y_name y_length y_op y_first y_second x_ruleKind x_ruleClasses x_ruleNames y_inlined y_number y_newName y_family y_vMethod y_vLine y_vHeld y_put f (nI d) := by
  have h30 := T.2.2.1.1
  have h10 := T.1.1
  intro d
  induction d using Nat.strongRecOn with
  | ind d ih =>
    intro f hd hf' se
    obtain ⟨f, rfl⟩ : ∃ q, f = q + 1 := ⟨f - 1, by omega⟩
    rw [wY_findsNew_2]
    refine br_f (nI_pos (by omega)) (yst_v h30 rfl hl (mh_10 T.2.2.1 h10) hf (by omega) ?_)
    refine oI_lt (fun m e => by have := dc_b h30 e; omega) (fun e => ⟨vp_in_nI (by omega) (by decide), ?_⟩) (fun m e => ?_)
    · rw [nI_c (by omega)]
      rcases ch_n T.1 hd e with ⟨p1, p2⟩ | ⟨p, p0, p1, p2⟩
      · refine nm_r p1 ?_
        obtain ⟨f, rfl⟩ : ∃ q, f = q + 1 := ⟨f - 1, by omega⟩
        rw [wY_findsNew_2]
        rw [se.trans p2] at hp
        exact br_t (by decide) hp
      · exact nm_r p1 (ih p p0 f (by omega) (by omega) (se.trans p2))
    · rw [se.trans (ch_s T.1 T.2.2.1 un hd e)] at hp
      rw [e]
      exact hp
end
