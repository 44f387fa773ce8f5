/-! ===== running: calls in the new program ===== -/
section
variable {x_classCount x_methodCount x_ruleCount x_isBuilt x_faultPlace x_namedClasses x_madeClasses x_namedMethods x_liveMethods x_depth x_stepCount x_outCount x_traceCount : Int32} {x_isInterfaceClass x_chainOf x_interfacesOf x_ancestorsOf x_homeOf x_formOf x_nameOf x_lengthOf x_opOf x_classOf x_numberOf x_sourceMethod x_sourceLine x_callLine x_ruleKind x_ruleClasses x_ruleNames x_newNumber x_familyOf x_sightOf x_frameRow x_frameLine x_frameHeld x_outInts x_traceMethod x_traceLine : Nat → Int32} {y_classes y_methods y_rules y_place y_named y_made y_namedMethods y_live y_built y_depth y_steps y_outs y_ending : Int32} {y_isInterface y_isAbstract y_parent y_ancestors y_own y_many y_home y_name y_length y_op y_first y_second y_ruleKind y_ruleClasses y_ruleNames y_inlined y_number y_newName y_family y_vMethod y_vLine y_vHeld y_put : Nat → Int32} {C M R w : Nat} {inl : Nat → Int32} {kept : Int32}
theorem fam_b (h30 : M ≤ 30) (yf : ∀ m, m < M → y_family m = nI (kn_f C M x_ancestorsOf x_homeOf y_name x_namedClasses x_namedMethods m)) (yw : ∀ m, m < M → y_newName m = na_it C M R x_ancestorsOf x_homeOf y_name x_ruleClasses x_ruleNames x_namedClasses x_namedMethods M m) : ∀ m, m < M → ∃ f, f < 30 ∧ y_family m = nI f := fun m hm =>
  ⟨_, by have := kn_le (C := C) (M := M) (anc := x_ancestorsOf) (hom := x_homeOf) (nam := y_name) (N := x_namedClasses) (Q := x_namedMethods) m; omega, yf m hm⟩
theorem nn_e (h30 : M ≤ 30) (xb : xb_p C M R x_ancestorsOf x_chainOf x_homeOf x_ruleClasses x_ruleNames y_name y_length y_op y_first y_second inl x_namedClasses x_namedMethods x_liveMethods kept x_formOf x_nameOf x_lengthOf x_opOf x_classOf x_numberOf x_sourceMethod x_sourceLine x_callLine x_newNumber) (yf : ∀ m, m < M → y_family m = nI (kn_f C M x_ancestorsOf x_homeOf y_name x_namedClasses x_namedMethods m)) (yw : ∀ m, m < M → y_newName m = na_it C M R x_ancestorsOf x_homeOf y_name x_ruleClasses x_ruleNames x_namedClasses x_namedMethods M m) : ∀ m, m < M → y_newName (hq_t (y_family m)) = x_nameOf (30 + m) ∧ y_newName (hq_t (y_family m)) = na_it C M R x_ancestorsOf x_homeOf y_name x_ruleClasses x_ruleNames x_namedClasses x_namedMethods M (kn_f C M x_ancestorsOf x_homeOf y_name x_namedClasses x_namedMethods m) := fun m hm => by
  have kl := kn_le (C := C) (M := M) (anc := x_ancestorsOf) (hom := x_homeOf) (nam := y_name) (N := x_namedClasses) (Q := x_namedMethods) m
  rw [yf m hm, hq_e (by omega), yw _ (by omega), xb.2.2.2.1 m hm]
  exact ⟨rfl, rfl⟩
theorem un_1 (T : tp_p C M R x_isInterfaceClass x_ancestorsOf x_interfacesOf x_chainOf y_parent y_many x_homeOf x_ruleKind x_ruleClasses x_ruleNames x_formOf x_nameOf x_lengthOf y_isAbstract y_name y_length x_opOf x_classOf x_numberOf x_sourceMethod x_sourceLine x_callLine y_op y_first y_second) (xb : xb_p C M R x_ancestorsOf x_chainOf x_homeOf x_ruleClasses x_ruleNames y_name y_length y_op y_first y_second inl x_namedClasses x_namedMethods x_liveMethods kept x_formOf x_nameOf x_lengthOf x_opOf x_classOf x_numberOf x_sourceMethod x_sourceLine x_callLine x_newNumber) (yf : ∀ m, m < M → y_family m = nI (kn_f C M x_ancestorsOf x_homeOf y_name x_namedClasses x_namedMethods m)) (yw : ∀ m, m < M → y_newName m = na_it C M R x_ancestorsOf x_homeOf y_name x_ruleClasses x_ruleNames x_namedClasses x_namedMethods M m) (ml : ss_le x_liveMethods x_namedMethods ∧ (∀ i, bt x_namedClasses i = true → i < C) ∧ (∀ i, bt x_madeClasses i = true → i < C) ∧ (∀ i, bt x_namedMethods i = true → i < M) ∧ (∀ i j, bt x_namedClasses i = true → bt (x_ancestorsOf i) j = true → bt x_namedClasses j = true) ∧ (∀ m, bt x_namedMethods m = true → bt x_namedClasses (hq_t (x_homeOf m)) = true) ∧ (∀ m, bt x_liveMethods m = true → y_isAbstract m = 0)) (n : Int32) : un_ok M x_homeOf (fun m => bt x_namedMethods m && decide (y_newName (hq_t (y_family m)) = n)) := fun a b ha hb qa qb eh => by
  have h30 := T.2.2.1.1
  rw [bb_a, decide_eq_true_eq] at qa qb
  have hnn : ∀ m, m < M → ∃ n, n < 10 ∧ y_name m = nI n := fun m hm => by
    obtain ⟨⟨n, n10, _, e⟩, _⟩ := T.2.2.2.1 m hm
    exact ⟨n, n10, e⟩
  refine na_un (na_all (C := C) (R := R) (anc := x_ancestorsOf) (hom := x_homeOf) (rc := x_ruleClasses) (rn := x_ruleNames) (N := x_namedClasses) (Q := x_namedMethods) h30 hnn M (Nat.le_refl M)) (fun m hm q => ?_) T.2.2.2.2.1 ha hb qa.1 qb.1 ?_ eh
  · have hc := (mh_h T.2.2.1 T.1.1 hm).2
    exact ⟨hc, ml.2.2.2.2.2.1 m q, (T.1.2 _ hc).1⟩
  · rw [← (nn_e h30 xb yf yw a ha).2, ← (nn_e h30 xb yf yw b hb).2, qa.2, qb.2]
theorem ft_1 (T : tp_p C M R x_isInterfaceClass x_ancestorsOf x_interfacesOf x_chainOf y_parent y_many x_homeOf x_ruleKind x_ruleClasses x_ruleNames x_formOf x_nameOf x_lengthOf y_isAbstract y_name y_length x_opOf x_classOf x_numberOf x_sourceMethod x_sourceLine x_callLine y_op y_first y_second) (xb : xb_p C M R x_ancestorsOf x_chainOf x_homeOf x_ruleClasses x_ruleNames y_name y_length y_op y_first y_second inl x_namedClasses x_namedMethods x_liveMethods kept x_formOf x_nameOf x_lengthOf x_opOf x_classOf x_numberOf x_sourceMethod x_sourceLine x_callLine x_newNumber) (yf : ∀ m, m < M → y_family m = nI (kn_f C M x_ancestorsOf x_homeOf y_name x_namedClasses x_namedMethods m)) (yw : ∀ m, m < M → y_newName m = na_it C M R x_ancestorsOf x_homeOf y_name x_ruleClasses x_ruleNames x_namedClasses x_namedMethods M m) (ml : ss_le x_liveMethods x_namedMethods ∧ (∀ i, bt x_namedClasses i = true → i < C) ∧ (∀ i, bt x_madeClasses i = true → i < C) ∧ (∀ i, bt x_namedMethods i = true → i < M) ∧ (∀ i j, bt x_namedClasses i = true → bt (x_ancestorsOf i) j = true → bt x_namedClasses j = true) ∧ (∀ m, bt x_namedMethods m = true → bt x_namedClasses (hq_t (x_homeOf m)) = true) ∧ (∀ m, bt x_liveMethods m = true → y_isAbstract m = 0)) {n : Int32} {h : Nat} (hC : h < C) : ft_v M 1 x_ancestorsOf x_chainOf x_homeOf x_formOf x_nameOf n h = (match sc_l (fun m => (fun m => bt x_namedMethods m && decide (y_newName (hq_t (y_family m)) = n)) m && bt (x_chainOf h) (hq_t (x_homeOf m))) M with
    | some g => if bt x_liveMethods g = true then some g else none
    | none => none) := by
  have h30 := T.2.2.1.1
  have fz : ∀ m, m < M → (x_formOf (30 + m) = 0 ↔ ¬ bt x_namedMethods m = true) := fun m hm => by
    rw [xb.1 m hm]
    by_cases l : bt x_liveMethods m = true
    · rw [if_pos l]; exact ⟨fun q => absurd q (by decide), fun q => absurd (ml.1 m l) q⟩
    · rw [if_neg l]
      by_cases n : bt x_namedMethods m = true
      · rw [if_pos n]; exact ⟨fun q => absurd q (by decide), fun q => absurd n q⟩
      · rw [if_neg n]; exact ⟨fun _ => n, fun _ => rfl⟩
  have f2 : ∀ m, m < M → (x_formOf (30 * 1 + m) = 2 ↔ bt x_liveMethods m = true) := fun m hm => by
    rw [Nat.mul_one, xb.1 m hm]
    by_cases l : bt x_liveMethods m = true
    · rw [if_pos l]; exact ⟨fun _ => l, fun _ => rfl⟩
    · rw [if_neg l]
      by_cases n : bt x_namedMethods m = true
      · rw [if_pos n]; exact ⟨fun q => absurd q (by decide), fun q => absurd q l⟩
      · rw [if_neg n]; exact ⟨fun q => absurd q (by decide), fun q => absurd q l⟩
  have bw : ∀ m, m < M → (decide (¬ x_formOf (30 * 1 + m) = 0) && decide (x_nameOf (30 * 1 + m) = n)) = (fun m => bt x_namedMethods m && decide (y_newName (hq_t (y_family m)) = n)) m := fun m hm => by
    show _ = (bt x_namedMethods m && decide (y_newName (hq_t (y_family m)) = n))
    rw [Nat.mul_one, (nn_e h30 xb yf yw m hm).1]
    congr 1
    exact Bool.eq_iff_iff.mpr ⟨fun z => by
      have := of_decide_eq_true z
      rw [fz m hm] at this
      exact Decidable.byContradiction this, fun z => decide_eq_true (fun q => (fz m hm).mp q z)⟩
  unfold ft_v
  rw [fd_cg bw]
  have ev : ∀ g, fd_v M x_ancestorsOf x_chainOf x_homeOf (fun m => bt x_namedMethods m && decide (y_newName (hq_t (y_family m)) = n)) h = some g → g < M := fun g e => (fd_s T.1 hC e).1
  cases el : sc_l (fun m => (fun m => bt x_namedMethods m && decide (y_newName (hq_t (y_family m)) = n)) m && bt (x_chainOf h) (hq_t (x_homeOf m))) M with
  | some g =>
    have e : fd_v M x_ancestorsOf x_chainOf x_homeOf (fun m => bt x_namedMethods m && decide (y_newName (hq_t (y_family m)) = n)) h = some g := by
      unfold fd_v; rw [el]
    rw [e]
    show (if x_formOf (30 * 1 + g) = 2 then some g else none) = (if bt x_liveMethods g = true then some g else none)
    by_cases l : bt x_liveMethods g = true
    · rw [if_pos l, if_pos ((f2 g (ev g e)).mpr l)]
    · rw [if_neg l, if_neg (fun q => l ((f2 g (ev g e)).mp q))]
  | none =>
    show _ = none
    cases e : fd_v M x_ancestorsOf x_chainOf x_homeOf (fun m => bt x_namedMethods m && decide (y_newName (hq_t (y_family m)) = n)) h with
    | none => rfl
    | some g =>
      have gM := ev g e
      show (if x_formOf (30 * 1 + g) = 2 then some g else none) = none
      refine if_neg (fun q => ?_)
      have l := (f2 g gM).mp q
      by_cases ic : x_isInterfaceClass (hq_t (x_homeOf g)) = 0
      · have := fd_ch T.1 hC e ic
        rw [el] at this; exact absurd this (by simp)
      · exact (T.2.2.2.1 g gM).2.2.2 ic (ml.2.2.2.2.2.2 g l)
theorem yfd_1 (T : tp_p C M R x_isInterfaceClass x_ancestorsOf x_interfacesOf x_chainOf y_parent y_many x_homeOf x_ruleKind x_ruleClasses x_ruleNames x_formOf x_nameOf x_lengthOf y_isAbstract y_name y_length x_opOf x_classOf x_numberOf x_sourceMethod x_sourceLine x_callLine y_op y_first y_second) (xb : xb_p C M R x_ancestorsOf x_chainOf x_homeOf x_ruleClasses x_ruleNames y_name y_length y_op y_first y_second inl x_namedClasses x_namedMethods x_liveMethods kept x_formOf x_nameOf x_lengthOf x_opOf x_classOf x_numberOf x_sourceMethod x_sourceLine x_callLine x_newNumber) (yf : ∀ m, m < M → y_family m = nI (kn_f C M x_ancestorsOf x_homeOf y_name x_namedClasses x_namedMethods m)) (yw : ∀ m, m < M → y_newName m = na_it C M R x_ancestorsOf x_homeOf y_name x_ruleClasses x_ruleNames x_namedClasses x_namedMethods M m) (ml : ss_le x_liveMethods x_namedMethods ∧ (∀ i, bt x_namedClasses i = true → i < C) ∧ (∀ i, bt x_madeClasses i = true → i < C) ∧ (∀ i, bt x_namedMethods i = true → i < M) ∧ (∀ i j, bt x_namedClasses i = true → bt (x_ancestorsOf i) j = true → bt x_namedClasses j = true) ∧ (∀ m, bt x_namedMethods m = true → bt x_namedClasses (hq_t (x_homeOf m)) = true) ∧ (∀ m, bt x_liveMethods m = true → y_isAbstract m = 0)) {post : Int32 → Prop} {n : Int32} {h : Nat} (hC : h < C) (hp : post (oI (ft_v M 1 x_ancestorsOf x_chainOf x_homeOf x_formOf x_nameOf n h))) : wpY_found post (nI C, nI M, y_rules, y_place, x_namedClasses, x_madeClasses, x_namedMethods, x_liveMethods, y_built, y_depth, y_steps, y_outs, y_ending, x_isInterfaceClass, y_isAbstract, y_parent, x_ancestorsOf, x_interfacesOf, y_many, x_homeOf, y_name, y_length, y_op, y_first, y_second, x_ruleKind, x_ruleClasses, x_ruleNames, y_inlined, y_number, y_newName, y_family, y_vMethod, y_vLine, y_vHeld, y_put) 1 (nI h) n := by
  have h30 := T.2.2.1.1
  rw [ft_1 T xb yf yw ml hC] at hp
  unfold wpY_found
  dsimp only
  refine br_f (by decide) ?_
  unfold wpY_findsNew
  dsimp only
  refine ⟨h + 2, yfn_c (C := C) T ml.1 (fam_b h30 yf yw) (un_1 T xb yf yw ml n) ?_ h (h + 2) hC (by omega) rfl⟩
  unfold wY_found_19
  cases el : sc_l (fun m => (fun m => bt x_namedMethods m && decide (y_newName (hq_t (y_family m)) = n)) m && bt (x_chainOf h) (hq_t (x_homeOf m))) M with
  | none => rw [el] at hp; exact br_t (by decide) hp
  | some g =>
    rw [el] at hp
    have hp : post (oI (if bt x_liveMethods g = true then some g else none)) := hp
    have gM := (sc_le el).1
    rw [oI_s]
    refine br_f (nI_pos (by omega)) (br_f (by decide) (yb_b (by omega) (fun l => ?_) (fun l => ?_)))
    · rw [if_pos l] at hp; exact hp
    · rw [if_neg l] at hp; exact hp
theorem hy_0 (T : tp_p C M R x_isInterfaceClass x_ancestorsOf x_interfacesOf x_chainOf y_parent y_many x_homeOf x_ruleKind x_ruleClasses x_ruleNames x_formOf x_nameOf x_lengthOf y_isAbstract y_name y_length x_opOf x_classOf x_numberOf x_sourceMethod x_sourceLine x_callLine y_op y_first y_second) (w0 : w = 0) (hi : inl = fun _ => -1) : (∀ {Q : SY → Prop} {k s o : Nat} {vm vl vh oi : Nat → Int32} {m x h : Nat} {cc : Int32}, m < M → x_formOf (30 * w + m) = 2 → x < hq_t (y_length m) → inl (6 * m + x) < 0 → (y_op (6 * m + x) = 2 ∨ y_op (6 * m + x) = 3) → h < C → (cc = nI h ∨ (cc = -1 ∧ y_first (6 * m + x) = nI h)) → wY_call_87 Q (oI (ft_v M w x_ancestorsOf x_chainOf x_homeOf x_formOf x_nameOf (x_numberOf (24 * (30 * w + m) + po_n inl y_length m x)) h)) (nI C) (nI M) y_rules y_place y_named y_made y_namedMethods y_live y_built (nI (k + 1)) (nI (s + 1)) (nI o) (-1) x_isInterfaceClass y_isAbstract y_parent x_ancestorsOf x_interfacesOf y_many x_homeOf y_name y_length y_op y_first y_second x_ruleKind x_ruleClasses x_ruleNames y_inlined y_number y_newName y_family vm vl vh oi → wpY_call Q (nI C, nI M, y_rules, y_place, y_named, y_made, y_namedMethods, y_live, y_built, nI (k + 1), nI (s + 1), nI o, -1, x_isInterfaceClass, y_isAbstract, y_parent, x_ancestorsOf, x_interfacesOf, y_many, x_homeOf, y_name, y_length, y_op, y_first, y_second, x_ruleKind, x_ruleClasses, x_ruleNames, y_inlined, y_number, y_newName, y_family, vm, vl, vh, oi) (nI w) (nI (6 * m + x)) cc) := by
  subst w0 hi
  intro Q k s o vm vl vh oi m x h cc mM mF xl n o23 hC hcc hp
  have h30 := T.2.2.1.1
  have l6 := (tp_len T mM).2.2
  have ij : vp_in (nI (6 * m + x)) 180 := vp_in_nI (by omega) (by decide)
  have en : x_numberOf (24 * (30 * 0 + m) + po_n (fun _ => -1) y_length m x) = y_second (6 * m + x) := by
    rw [Nat.mul_zero, Nat.zero_add, po_1]
    obtain ⟨o, o6, e1, e2, _, _, e5, _⟩ := T.2.2.2.2.2.1 m x mM xl
    have : o = 2 ∨ o = 3 := by
      rw [e2] at o23
      rcases o23 with z | z
      · exact Or.inl ((nI_eq (a := o) (b := 2) (by omega) (by omega)).mp z)
      · exact Or.inr ((nI_eq (a := o) (b := 3) (by omega) (by omega)).mp z)
    obtain ⟨n, _, g1, g2⟩ := e5 this
    rw [g1, g2]
  rw [en] at hp
  have c14 : wY_call_14 Q (nI 0) (nI (6 * m + x)) (nI h) (nI C) (nI M) y_rules y_place y_named y_made y_namedMethods y_live y_built (nI (k + 1)) (nI (s + 1)) (nI o) (-1) x_isInterfaceClass y_isAbstract y_parent x_ancestorsOf x_interfacesOf y_many x_homeOf y_name y_length y_op y_first y_second x_ruleKind x_ruleClasses x_ruleNames y_inlined y_number y_newName y_family vm vl vh oi := by
    unfold wY_call_14
    refine br_t rfl ?_
    unfold wY_call_30
    rw [nI_c (by omega)]
    refine ⟨ij, nm_e (br_t rfl ?_)⟩
    unfold wY_call_71
    exact br_f (by decide) (yfd_0 T hC hp)
  have h10 := T.1.1
  unfold wpY_call
  dsimp only
  rcases hcc with e | ⟨e, e'⟩
  · rw [e]; exact br_t (nI_pos' (by omega)) c14
  · rw [e, nI_c (by omega), e']; exact br_f (by decide) ⟨ij, c14⟩
theorem hy_1 (T : tp_p C M R x_isInterfaceClass x_ancestorsOf x_interfacesOf x_chainOf y_parent y_many x_homeOf x_ruleKind x_ruleClasses x_ruleNames x_formOf x_nameOf x_lengthOf y_isAbstract y_name y_length x_opOf x_classOf x_numberOf x_sourceMethod x_sourceLine x_callLine y_op y_first y_second) (NF : ff_v C M x_isInterfaceClass x_ancestorsOf x_chainOf x_homeOf y_isAbstract y_name y_length y_op y_first y_second = none) (w1 : w = 1) (hin : ∀ m k, m < M → k < 6 → y_inlined (6 * m + k) = inl (6 * m + k)) (xb : xb_p C M R x_ancestorsOf x_chainOf x_homeOf x_ruleClasses x_ruleNames y_name y_length y_op y_first y_second inl x_namedClasses x_namedMethods x_liveMethods kept x_formOf x_nameOf x_lengthOf x_opOf x_classOf x_numberOf x_sourceMethod x_sourceLine x_callLine x_newNumber) (yf : ∀ m, m < M → y_family m = nI (kn_f C M x_ancestorsOf x_homeOf y_name x_namedClasses x_namedMethods m)) (yw : ∀ m, m < M → y_newName m = na_it C M R x_ancestorsOf x_homeOf y_name x_ruleClasses x_ruleNames x_namedClasses x_namedMethods M m) (ml : ss_le x_liveMethods x_namedMethods ∧ (∀ i, bt x_namedClasses i = true → i < C) ∧ (∀ i, bt x_madeClasses i = true → i < C) ∧ (∀ i, bt x_namedMethods i = true → i < M) ∧ (∀ i j, bt x_namedClasses i = true → bt (x_ancestorsOf i) j = true → bt x_namedClasses j = true) ∧ (∀ m, bt x_namedMethods m = true → bt x_namedClasses (hq_t (x_homeOf m)) = true) ∧ (∀ m, bt x_liveMethods m = true → y_isAbstract m = 0)) (m1 : x_namedClasses = y_named) (m2 : x_madeClasses = y_made) (m3 : x_namedMethods = y_namedMethods) (m4 : x_liveMethods = y_live) : (∀ {Q : SY → Prop} {k s o : Nat} {vm vl vh oi : Nat → Int32} {m x h : Nat} {cc : Int32}, m < M → x_formOf (30 * w + m) = 2 → x < hq_t (y_length m) → inl (6 * m + x) < 0 → (y_op (6 * m + x) = 2 ∨ y_op (6 * m + x) = 3) → h < C → (cc = nI h ∨ (cc = -1 ∧ y_first (6 * m + x) = nI h)) → wY_call_87 Q (oI (ft_v M w x_ancestorsOf x_chainOf x_homeOf x_formOf x_nameOf (x_numberOf (24 * (30 * w + m) + po_n inl y_length m x)) h)) (nI C) (nI M) y_rules y_place y_named y_made y_namedMethods y_live y_built (nI (k + 1)) (nI (s + 1)) (nI o) (-1) x_isInterfaceClass y_isAbstract y_parent x_ancestorsOf x_interfacesOf y_many x_homeOf y_name y_length y_op y_first y_second x_ruleKind x_ruleClasses x_ruleNames y_inlined y_number y_newName y_family vm vl vh oi → wpY_call Q (nI C, nI M, y_rules, y_place, y_named, y_made, y_namedMethods, y_live, y_built, nI (k + 1), nI (s + 1), nI o, -1, x_isInterfaceClass, y_isAbstract, y_parent, x_ancestorsOf, x_interfacesOf, y_many, x_homeOf, y_name, y_length, y_op, y_first, y_second, x_ruleKind, x_ruleClasses, x_ruleNames, y_inlined, y_number, y_newName, y_family, vm, vl, vh, oi) (nI w) (nI (6 * m + x)) cc) := by
  subst w1 m1 m2 m3 m4
  intro Q k s o vm vl vh oi m x h cc mM mF xl n o23 hC hcc hp
  have h30 := T.2.2.1.1
  have h10 := T.1.1
  have l6 := (tp_len T mM).2.2
  have ij : vp_in (nI (6 * m + x)) 180 := vp_in_nI (by omega) (by decide)
  obtain ⟨o', o6, ey, ex, g1, _, g3⟩ := xc_c T NF mM xl
  have oo : o' = 2 ∨ o' = 3 := by
    rw [ey] at o23
    rcases o23 with z | z
    · exact Or.inl ((nI_eq (a := o') (b := 2) (by omega) (by omega)).mp z)
    · exact Or.inr ((nI_eq (a := o') (b := 3) (by omega) (by omega)).mp z)
  obtain ⟨c, cC, p1, _⟩ := g1 (by omega)
  obtain ⟨_, g, eg, _⟩ := g3 oo
  have lv : bt x_liveMethods m = true := by
    rw [Nat.mul_one, xb.1 m mM] at mF
    by_cases l : bt x_liveMethods m = true
    · exact l
    · rw [if_neg l] at mF
      by_cases q : bt x_namedMethods m = true
      · rw [if_pos q] at mF; exact absurd mF (by decide)
      · rw [if_neg q] at mF; exact absurd mF (by decide)
  have eg' := eg
  rw [p1, hq_e (by omega)] at eg'
  have gM := (fd_s T.1 cC eg').1
  have en : x_numberOf (24 * (30 * 1 + m) + po_n inl y_length m x) = y_newName (hq_t (y_family g)) := by
    rw [Nat.mul_one, ((xb.2.2.1 m mM lv x xl).1 n).2.2]
    unfold rn_v
    rw [if_pos o23, eg]
    exact (nn_e h30 xb yf yw g gM).1.symm
  rw [en] at hp
  have neg : ¬ 0 ≤ inl (6 * m + x) := fun z => by
    rw [Int32.lt_iff_toInt_lt] at n
    rw [Int32.le_iff_toInt_le] at z
    omega
  have c14 : wY_call_14 Q (nI 1) (nI (6 * m + x)) (nI h) (nI C) (nI M) y_rules y_place x_namedClasses x_madeClasses x_namedMethods x_liveMethods y_built (nI (k + 1)) (nI (s + 1)) (nI o) (-1) x_isInterfaceClass y_isAbstract y_parent x_ancestorsOf x_interfacesOf y_many x_homeOf y_name y_length y_op y_first y_second x_ruleKind x_ruleClasses x_ruleNames y_inlined y_number y_newName y_family vm vl vh oi := by
    unfold wY_call_14
    rw [nI_c (by omega), hin m x mM (by omega)]
    refine br_f (by decide) ⟨ij, ?_⟩
    unfold wY_call_30
    rw [nI_c (by omega)]
    refine ⟨ij, nm_e (br_f (by decide) (br_f neg ⟨ij, ?_⟩))⟩
    rw [p1]
    refine yo_v T rfl rfl cC ?_
    rw [eg', oI_s]
    refine yw_v h30 (fam_b h30 yf yw) gM ?_
    unfold wY_call_71
    exact br_f neg (yfd_1 T xb yf yw ml hC hp)
  unfold wpY_call
  dsimp only
  rcases hcc with e | ⟨e, e'⟩
  · rw [e]; exact br_t (nI_pos' (by omega)) c14
  · rw [e, nI_c (by omega), e']; exact br_f (by decide) ⟨ij, c14⟩
end
