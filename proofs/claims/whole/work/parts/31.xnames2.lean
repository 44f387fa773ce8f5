/-! ===== names: X, the new names ===== -/
section
variable {x_classCount x_methodCount x_ruleCount x_isBuilt x_faultPlace x_namedClasses x_madeClasses x_namedMethods x_liveMethods x_depth x_stepCount x_outCount x_traceCount : Int32} {x_isInterfaceClass x_chainOf x_interfacesOf x_ancestorsOf x_homeOf x_formOf x_nameOf x_lengthOf x_opOf x_classOf x_numberOf x_sourceMethod x_sourceLine x_callLine x_ruleKind x_ruleClasses x_ruleNames x_newNumber x_familyOf x_sightOf x_frameRow x_frameLine x_frameHeld x_outInts x_traceMethod x_traceLine : Nat → Int32} {C M R : Nat} {y_name : Nat → Int32}
theorem xs_m (hs : (∀ f e, f < M → (bt (x_sightOf f) e = true ↔ sg_p C M x_ancestorsOf x_homeOf y_name x_namedClasses x_namedMethods f e))) {f h : Nat} (hf : f < M) (hh : h < M) : (x_sightOf f &&& x_sightOf h) = 0 ↔ ¬ sg_m C M x_ancestorsOf x_homeOf y_name x_namedClasses x_namedMethods f h := by
  rw [bq_ze]
  constructor
  · rintro z ⟨d, a, b⟩
    refine z d ?_
    rw [b_and, Bool.and_eq_true]
    exact ⟨(hs f d hf).mpr a, (hs h d hh).mpr b⟩
  · intro z i y
    rw [b_and, Bool.and_eq_true] at y
    exact z ⟨i, (hs f i hf).mp y.1, (hs h i hh).mp y.2⟩
theorem xZ_v (h30 : M ≤ 30) (hM : x_methodCount = nI M) (hs : (∀ f e, f < M → (bt (x_sightOf f) e = true ↔ sg_p C M x_ancestorsOf x_homeOf y_name x_namedClasses x_namedMethods f e))) {nn : Nat → Int32} (hn : ∀ m, m < M → x_nameOf (30 + m) = nn m) {f : Nat} (hf : f < M) (ok : na_ok C M R x_ancestorsOf x_homeOf y_name x_ruleClasses x_ruleNames x_namedClasses x_namedMethods f nn) (nk : ¬ kp_p C M R x_ancestorsOf x_homeOf y_name x_ruleClasses x_ruleNames x_namedClasses x_namedMethods f) {post : Int32 → Prop}
    (hp : post (nI (le_o (na_tk C M x_ancestorsOf x_homeOf y_name x_namedClasses x_namedMethods nn f)))) : wpX_leastFreeName post (x_classCount, x_methodCount, x_ruleCount, x_isBuilt, x_faultPlace, x_namedClasses, x_madeClasses, x_namedMethods, x_liveMethods, x_depth, x_stepCount, x_outCount, x_traceCount, x_isInterfaceClass, x_chainOf, x_interfacesOf, x_ancestorsOf, x_homeOf, x_formOf, x_nameOf, x_lengthOf, x_opOf, x_classOf, x_numberOf, x_sourceMethod, x_sourceLine, x_callLine, x_ruleKind, x_ruleClasses, x_ruleNames, x_newNumber, x_familyOf, x_sightOf, x_frameRow, x_frameLine, x_frameHeld, x_outInts, x_traceMethod, x_traceLine) (nI f) := by
  obtain ⟨l30, ntk⟩ := na_tkS h30 hf ok nk
  obtain ⟨n, n30, ntn⟩ := na_30 h30 hf ok nk
  have below := (le_x ntn).2.1
  have fin : ∀ v, (∀ n, n < 30 → (bt v n = true ↔ na_tk C M x_ancestorsOf x_homeOf y_name x_namedClasses x_namedMethods nn f n)) → ∀ q i fu, i + q = le_o (na_tk C M x_ancestorsOf x_homeOf y_name x_namedClasses x_namedMethods nn f) → q < fu → wX_leastFreeName_63 post v x_classCount x_methodCount x_ruleCount x_isBuilt x_faultPlace x_namedClasses x_madeClasses x_namedMethods x_liveMethods x_depth x_stepCount x_outCount x_traceCount x_isInterfaceClass x_chainOf x_interfacesOf x_ancestorsOf x_homeOf x_formOf x_nameOf x_lengthOf x_opOf x_classOf x_numberOf x_sourceMethod x_sourceLine x_callLine x_ruleKind x_ruleClasses x_ruleNames x_newNumber x_familyOf x_sightOf x_frameRow x_frameLine x_frameHeld x_outInts x_traceMethod x_traceLine fu (nI i) (nI i) := by
    intro v hv q
    induction q with
    | zero =>
      intro i fu e hfu
      obtain ⟨fu, rfl⟩ : ∃ q, fu = q + 1 := ⟨fu - 1, by omega⟩
      have e : i = le_o (na_tk C M x_ancestorsOf x_homeOf y_name x_namedClasses x_namedMethods nn f) := by omega
      rw [wX_leastFreeName_63]
      refine br_f (nI_ge (b := 30) (by omega) (by decide)) (xh_b (by omega) (fun y => ?_) (fun _ => by rw [e]; exact hp))
      rw [e] at y
      exact absurd ((hv _ l30).mp y) ntk
    | succ q ih =>
      intro i fu e hfu
      obtain ⟨fu, rfl⟩ : ∃ q, fu = q + 1 := ⟨fu - 1, by omega⟩
      rw [wX_leastFreeName_63]
      exact br_f (nI_ge (b := 30) (by omega) (by decide)) (xh_b (by omega) (fun _ => nm_r (nI_1 i) (nm_r (nI_1 i) (ih (i + 1) fu (by omega) (by omega)))) (fun y => absurd ((hv i (by omega)).mpr (below i (by omega))) y))
  have lo : ∀ q i fu v, i + q = M → q < fu → (∀ n, n < 30 → (bt v n = true ↔ ∃ g, g < i ∧ nn g = nI n ∧ sg_m C M x_ancestorsOf x_homeOf y_name x_namedClasses x_namedMethods f g)) → wX_leastFreeName_4 post (nI f) x_classCount x_methodCount x_ruleCount x_isBuilt x_faultPlace x_namedClasses x_madeClasses x_namedMethods x_liveMethods x_depth x_stepCount x_outCount x_traceCount x_isInterfaceClass x_chainOf x_interfacesOf x_ancestorsOf x_homeOf x_formOf x_nameOf x_lengthOf x_opOf x_classOf x_numberOf x_sourceMethod x_sourceLine x_callLine x_ruleKind x_ruleClasses x_ruleNames x_newNumber x_familyOf x_sightOf x_frameRow x_frameLine x_frameHeld x_outInts x_traceMethod x_traceLine fu v (nI i) := by
    intro q
    induction q with
    | zero =>
      intro i fu v e hfu z
      obtain ⟨fu, rfl⟩ : ∃ q, fu = q + 1 := ⟨fu - 1, by omega⟩
      have e : i = M := by omega
      subst e
      rw [wX_leastFreeName_4]
      exact br_t (by rw [hM]; exact nI_le (by omega) (by omega)) ⟨_, fin v z _ 0 (le_o (na_tk C i x_ancestorsOf x_homeOf y_name x_namedClasses x_namedMethods nn f) + 1) (Nat.zero_add _) (by omega)⟩
    | succ q ih =>
      intro i fu v e hfu z
      obtain ⟨fu, rfl⟩ : ∃ q, fu = q + 1 := ⟨fu - 1, by omega⟩
      have nx : (∀ n, n < 30 → nn i = nI n → ¬ sg_m C M x_ancestorsOf x_homeOf y_name x_namedClasses x_namedMethods f i) → wX_leastFreeName_4 post (nI f) x_classCount x_methodCount x_ruleCount x_isBuilt x_faultPlace x_namedClasses x_madeClasses x_namedMethods x_liveMethods x_depth x_stepCount x_outCount x_traceCount x_isInterfaceClass x_chainOf x_interfacesOf x_ancestorsOf x_homeOf x_formOf x_nameOf x_lengthOf x_opOf x_classOf x_numberOf x_sourceMethod x_sourceLine x_callLine x_ruleKind x_ruleClasses x_ruleNames x_newNumber x_familyOf x_sightOf x_frameRow x_frameLine x_frameHeld x_outInts x_traceMethod x_traceLine fu v (nI (i + 1)) := fun y => ih (i + 1) fu v (by omega) (by omega) (fun n hn => (z n hn).trans ⟨fun ⟨g, hg, b⟩ => ⟨g, by omega, b⟩, fun ⟨g, hg, b⟩ => by
        rcases Nat.lt_or_ge g i with w | w
        · exact ⟨g, w, b⟩
        · have : g = i := by omega
          subst this; exact absurd b.2 (y n hn b.1)⟩)
      rw [wX_leastFreeName_4]
      refine br_f (by rw [hM]; exact nI_ge (by omega) (by omega)) ?_
      rw [nI_b30]
      refine ⟨vp_in_nI (by omega) (by decide), ?_⟩
      rw [nI_c (show 30 + i < 10000 by omega)]
      refine nm_r (hn i (by omega)) ?_
      rcases ok.1 i (by omega) with w | ⟨k, k30, ek, _⟩
      · exact br_t w (nm_r (nI_1 i) (nx (fun n hn y => by rw [w] at y; exact absurd y.symm (oI_n (by omega)))))
      · refine br_f (by rw [ek]; exact oI_n (by omega)) ⟨vp_in_nI (by omega) (by decide), vp_in_nI (by omega) (by decide), ?_⟩
        rw [nI_c (show f < 10000 by omega), nI_c (show i < 10000 by omega)]
        refine ek_if (xs_m hs hf (by omega)) (fun y => nm_r (nI_1 i) (nx (fun _ _ _ => y))) (fun y => nm_e (nm_r (nI_1 i) (ih (i + 1) fu _ (by omega) (by omega) (fun n hn => ?_))))
        rw [ek, bq_o1 _ (by omega), z n hn]
        constructor
        · rintro (⟨g, hg, b⟩ | h)
          · exact ⟨g, by omega, b⟩
          · subst h; exact ⟨i, by omega, ek, Classical.byContradiction y⟩
        · rintro ⟨g, hg, b1, b2⟩
          rcases Nat.lt_or_ge g i with w | w
          · exact Or.inl ⟨g, w, b1, b2⟩
          · have : g = i := by omega
            subst this
            rw [ek] at b1
            exact Or.inr ((nI_eq (by omega) (by omega)).mp b1).symm
  unfold wpX_leastFreeName
  exact ⟨M + 1, lo M 0 (M + 1) 0 (by omega) (by omega) (fun n hn => by
    rw [b_0]
    exact ⟨fun y => absurd y (by decide), fun ⟨m, h, _⟩ => by omega⟩)⟩
theorem xA_c (h30 : M ≤ 30) (hM : x_methodCount = nI M) (hf : (∀ m, m < M → x_familyOf m = nI (kn_f C M x_ancestorsOf x_homeOf y_name x_namedClasses x_namedMethods m))) {nn : Nat → Int32} {post : SX → Prop} {nm0 : Nat → Int32}
    (K : ∀ nm, (∀ j, j < 30 → nm j = nm0 j) → (∀ m, m < M → nm (30 + m) = nn (kn_f C M x_ancestorsOf x_homeOf y_name x_namedClasses x_namedMethods m)) → post (x_classCount, x_methodCount, x_ruleCount, x_isBuilt, x_faultPlace, x_namedClasses, x_madeClasses, x_namedMethods, x_liveMethods, x_depth, x_stepCount, x_outCount, x_traceCount, x_isInterfaceClass, x_chainOf, x_interfacesOf, x_ancestorsOf, x_homeOf, x_formOf, nm, x_lengthOf, x_opOf, x_classOf, x_numberOf, x_sourceMethod, x_sourceLine, x_callLine, x_ruleKind, x_ruleClasses, x_ruleNames, x_newNumber, x_familyOf, x_sightOf, x_frameRow, x_frameLine, x_frameHeld, x_outInts, x_traceMethod, x_traceLine)) :
    ∀ q i fu nm, i + q = M → q < fu → (∀ j, j < 30 → nm j = nm0 j) → (∀ m, m < i → nm (30 + m) = nn (kn_f C M x_ancestorsOf x_homeOf y_name x_namedClasses x_namedMethods m)) → (∀ m, i ≤ m → m < M → nm (30 + m) = nn m) → wX_nameFamilies_113 post x_classCount x_methodCount x_ruleCount x_isBuilt x_faultPlace x_namedClasses x_madeClasses x_namedMethods x_liveMethods x_depth x_stepCount x_outCount x_traceCount fu (nI i) x_isInterfaceClass x_chainOf x_interfacesOf x_ancestorsOf x_homeOf x_formOf nm x_lengthOf x_opOf x_classOf x_numberOf x_sourceMethod x_sourceLine x_callLine x_ruleKind x_ruleClasses x_ruleNames x_newNumber x_familyOf x_sightOf x_frameRow x_frameLine x_frameHeld x_outInts x_traceMethod x_traceLine := by
  intro q
  induction q with
  | zero =>
    intro i fu nm e hfu a1 a2 a3
    obtain ⟨fu, rfl⟩ : ∃ q, fu = q + 1 := ⟨fu - 1, by omega⟩
    have e : i = M := by omega
    subst e
    rw [wX_nameFamilies_113]
    exact br_t (by rw [hM]; exact nI_le (by omega) (by omega)) (K nm a1 a2)
  | succ q ih =>
    intro i fu nm e hfu a1 a2 a3
    obtain ⟨fu, rfl⟩ : ∃ q, fu = q + 1 := ⟨fu - 1, by omega⟩
    have kl := kn_le (C := C) (M := M) (anc := x_ancestorsOf) (hom := x_homeOf) (nam := y_name) (N := x_namedClasses) (Q := x_namedMethods) i
    have ki := kn_id (C := C) (M := M) (anc := x_ancestorsOf) (hom := x_homeOf) (nam := y_name) (N := x_namedClasses) (Q := x_namedMethods) i
    have val : nm (30 + kn_f C M x_ancestorsOf x_homeOf y_name x_namedClasses x_namedMethods i) = nn (kn_f C M x_ancestorsOf x_homeOf y_name x_namedClasses x_namedMethods i) := by
      rcases Nat.lt_or_ge (kn_f C M x_ancestorsOf x_homeOf y_name x_namedClasses x_namedMethods i) i with w | w
      · rw [a2 _ w, ki]
      · exact a3 _ w (by omega)
    rw [wX_nameFamilies_113]
    refine br_f (by rw [hM]; exact nI_ge (by omega) (by omega)) ⟨vp_in_nI (by omega) (by decide), ?_⟩
    rw [nI_c (show i < 10000 by omega), hf i (by omega), nI_b30, nI_b30, nI_c (show 30 + kn_f C M x_ancestorsOf x_homeOf y_name x_namedClasses x_namedMethods i < 10000 by omega), nI_c (show 30 + i < 10000 by omega), val]
    refine ⟨vp_in_nI (by omega) (by decide), vp_in_nI (by omega) (by decide), nm_e (nm_r (nI_1 i) (ih (i + 1) fu _ (by omega) (by omega) (fun j hj => ?_) (fun m hm => ?_) (fun m h1 h2 => ?_)))⟩
    · rw [pk_un (by omega)]; exact a1 j hj
    · by_cases c : m = i
      · subst c; exact pk_us
      · rw [pk_un (by omega)]; exact a2 m (by omega)
    · rw [pk_un (by omega)]; exact a3 m (by omega) h2
theorem xA_b (h30 : M ≤ 30) (hM : x_methodCount = nI M) (hf : (∀ m, m < M → x_familyOf m = nI (kn_f C M x_ancestorsOf x_homeOf y_name x_namedClasses x_namedMethods m))) (hs : (∀ f e, f < M → (bt (x_sightOf f) e = true ↔ sg_p C M x_ancestorsOf x_homeOf y_name x_namedClasses x_namedMethods f e))) (hnn : ∀ m, m < M → ∃ n, n < 10 ∧ y_name m = nI n) {kept : Int32} (hk : ∀ f, bt kept f = true ↔ kp_p C M R x_ancestorsOf x_homeOf y_name x_ruleClasses x_ruleNames x_namedClasses x_namedMethods f) {post : SX → Prop} {nm0 : Nat → Int32}
    (K : ∀ nm, (∀ j, j < 30 → nm j = nm0 j) → (∀ m, m < M → nm (30 + m) = na_it C M R x_ancestorsOf x_homeOf y_name x_ruleClasses x_ruleNames x_namedClasses x_namedMethods M (kn_f C M x_ancestorsOf x_homeOf y_name x_namedClasses x_namedMethods m)) → post (x_classCount, x_methodCount, x_ruleCount, x_isBuilt, x_faultPlace, x_namedClasses, x_madeClasses, x_namedMethods, x_liveMethods, x_depth, x_stepCount, x_outCount, x_traceCount, x_isInterfaceClass, x_chainOf, x_interfacesOf, x_ancestorsOf, x_homeOf, x_formOf, nm, x_lengthOf, x_opOf, x_classOf, x_numberOf, x_sourceMethod, x_sourceLine, x_callLine, x_ruleKind, x_ruleClasses, x_ruleNames, x_newNumber, x_familyOf, x_sightOf, x_frameRow, x_frameLine, x_frameHeld, x_outInts, x_traceMethod, x_traceLine)) :
    ∀ q i fu nm, i + q = M → q < fu → (∀ j, j < 30 → nm j = nm0 j) → (∀ m, m < M → nm (30 + m) = na_it C M R x_ancestorsOf x_homeOf y_name x_ruleClasses x_ruleNames x_namedClasses x_namedMethods i m) → wX_nameFamilies_54 post kept x_classCount x_methodCount x_ruleCount x_isBuilt x_faultPlace x_namedClasses x_madeClasses x_namedMethods x_liveMethods x_depth x_stepCount x_outCount x_traceCount fu (nI i) x_isInterfaceClass x_chainOf x_interfacesOf x_ancestorsOf x_homeOf x_formOf nm x_lengthOf x_opOf x_classOf x_numberOf x_sourceMethod x_sourceLine x_callLine x_ruleKind x_ruleClasses x_ruleNames x_newNumber x_familyOf x_sightOf x_frameRow x_frameLine x_frameHeld x_outInts x_traceMethod x_traceLine := by
  intro q
  induction q with
  | zero =>
    intro i fu nm e hfu a1 a2
    obtain ⟨fu, rfl⟩ : ∃ q, fu = q + 1 := ⟨fu - 1, by omega⟩
    have e : i = M := by omega
    subst e
    rw [wX_nameFamilies_54]
    exact br_t (by rw [hM]; exact nI_le (by omega) (by omega)) ⟨i + 1, xA_c h30 hM hf K i 0 (i + 1) nm (by omega) (by omega) a1 (fun m hm => by omega) (fun m _ h2 => a2 m h2)⟩
  | succ q ih =>
    intro i fu nm e hfu a1 a2
    obtain ⟨fu, rfl⟩ : ∃ q, fu = q + 1 := ⟨fu - 1, by omega⟩
    have kl := kn_le (C := C) (M := M) (anc := x_ancestorsOf) (hom := x_homeOf) (nam := y_name) (N := x_namedClasses) (Q := x_namedMethods) i
    have sk : ¬ (bt x_namedMethods i = true ∧ kn_f C M x_ancestorsOf x_homeOf y_name x_namedClasses x_namedMethods i = i ∧ ¬ kp_p C M R x_ancestorsOf x_homeOf y_name x_ruleClasses x_ruleNames x_namedClasses x_namedMethods i) → wX_nameFamilies_54 post kept x_classCount x_methodCount x_ruleCount x_isBuilt x_faultPlace x_namedClasses x_madeClasses x_namedMethods x_liveMethods x_depth x_stepCount x_outCount x_traceCount fu (nI (i + 1)) x_isInterfaceClass x_chainOf x_interfacesOf x_ancestorsOf x_homeOf x_formOf nm x_lengthOf x_opOf x_classOf x_numberOf x_sourceMethod x_sourceLine x_callLine x_ruleKind x_ruleClasses x_ruleNames x_newNumber x_familyOf x_sightOf x_frameRow x_frameLine x_frameHeld x_outInts x_traceMethod x_traceLine := fun y =>
      ih (i + 1) fu nm (by omega) (by omega) a1 (fun m hm => by rw [a2 m hm, show na_it C M R x_ancestorsOf x_homeOf y_name x_ruleClasses x_ruleNames x_namedClasses x_namedMethods (i + 1) = na_it C M R x_ancestorsOf x_homeOf y_name x_ruleClasses x_ruleNames x_namedClasses x_namedMethods i from if_neg y])
    rw [wX_nameFamilies_54]
    refine br_f (by rw [hM]; exact nI_ge (by omega) (by omega)) (xh_b (by omega) (fun b1 => ⟨vp_in_nI (by omega) (by decide), ?_⟩) (fun y => nm_r (nI_1 i) (sk (fun q => y q.1))))
    rw [nI_c (show i < 10000 by omega), hf i (by omega)]
    refine pk_eq (kn_f C M x_ancestorsOf x_homeOf y_name x_namedClasses x_namedMethods i) i (fun b2 => xh_b (by omega) (fun y => nm_r (nI_1 i) (sk (fun q => q.2.2 ((hk i).mp y)))) (fun y => ?_)) (fun y => nm_r (nI_1 i) (sk (fun q => y q.2.1)))
    have nk : ¬ kp_p C M R x_ancestorsOf x_homeOf y_name x_ruleClasses x_ruleNames x_namedClasses x_namedMethods i := fun q => y ((hk i).mpr q)
    refine xZ_v (nn := na_it C M R x_ancestorsOf x_homeOf y_name x_ruleClasses x_ruleNames x_namedClasses x_namedMethods i) h30 hM hs a2 (by omega) (na_all h30 hnn i (by omega)) nk ?_
    rw [nI_b30, nI_c (show 30 + i < 10000 by omega)]
    refine ⟨vp_in_nI (by omega) (by decide), nm_e (nm_r (nI_1 i) (ih (i + 1) fu _ (by omega) (by omega) (fun j hj => ?_) (fun m hm => ?_)))⟩
    · rw [pk_un (by omega)]; exact a1 j hj
    · rw [show na_it C M R x_ancestorsOf x_homeOf y_name x_ruleClasses x_ruleNames x_namedClasses x_namedMethods (i + 1) = upd (na_it C M R x_ancestorsOf x_homeOf y_name x_ruleClasses x_ruleNames x_namedClasses x_namedMethods i) i (nI (le_o (na_tk C M x_ancestorsOf x_homeOf y_name x_namedClasses x_namedMethods (na_it C M R x_ancestorsOf x_homeOf y_name x_ruleClasses x_ruleNames x_namedClasses x_namedMethods i) i))) from if_pos ⟨b1, b2, nk⟩]
      by_cases c : m = i
      · subst c; rw [pk_us, pk_us]
      · rw [pk_un (by omega), pk_un c]; exact a2 m hm
theorem xA_v {y_parent y_many y_isAbstract y_length y_op y_first y_second : Nat → Int32} (T : tp_p C M R x_isInterfaceClass x_ancestorsOf x_interfacesOf x_chainOf y_parent y_many x_homeOf x_ruleKind x_ruleClasses x_ruleNames x_formOf x_nameOf x_lengthOf y_isAbstract y_name y_length x_opOf x_classOf x_numberOf x_sourceMethod x_sourceLine x_callLine y_op y_first y_second) (hC : x_classCount = nI C) (hM : x_methodCount = nI M) (hR : x_ruleCount = nI R) (hf : (∀ m, m < M → x_familyOf m = nI (kn_f C M x_ancestorsOf x_homeOf y_name x_namedClasses x_namedMethods m))) {post : SX → Prop}
    (K : ∀ nm sg, (∀ j, j < 30 → nm j = x_nameOf j) → (∀ m, m < M → nm (30 + m) = na_it C M R x_ancestorsOf x_homeOf y_name x_ruleClasses x_ruleNames x_namedClasses x_namedMethods M (kn_f C M x_ancestorsOf x_homeOf y_name x_namedClasses x_namedMethods m)) → post (x_classCount, x_methodCount, x_ruleCount, x_isBuilt, x_faultPlace, x_namedClasses, x_madeClasses, x_namedMethods, x_liveMethods, x_depth, x_stepCount, x_outCount, x_traceCount, x_isInterfaceClass, x_chainOf, x_interfacesOf, x_ancestorsOf, x_homeOf, x_formOf, nm, x_lengthOf, x_opOf, x_classOf, x_numberOf, x_sourceMethod, x_sourceLine, x_callLine, x_ruleKind, x_ruleClasses, x_ruleNames, x_newNumber, x_familyOf, sg, x_frameRow, x_frameLine, x_frameHeld, x_outInts, x_traceMethod, x_traceLine)) : wpX_nameFamilies post (x_classCount, x_methodCount, x_ruleCount, x_isBuilt, x_faultPlace, x_namedClasses, x_madeClasses, x_namedMethods, x_liveMethods, x_depth, x_stepCount, x_outCount, x_traceCount, x_isInterfaceClass, x_chainOf, x_interfacesOf, x_ancestorsOf, x_homeOf, x_formOf, x_nameOf, x_lengthOf, x_opOf, x_classOf, x_numberOf, x_sourceMethod, x_sourceLine, x_callLine, x_ruleKind, x_ruleClasses, x_ruleNames, x_newNumber, x_familyOf, x_sightOf, x_frameRow, x_frameLine, x_frameHeld, x_outInts, x_traceMethod, x_traceLine) := by
  have h30 := T.2.2.1.1
  have h10 := T.1.1
  have hnn : ∀ m, m < M → ∃ n, n < 10 ∧ y_name m = nI n := fun m hm => by
    obtain ⟨⟨n, n10, _, e⟩, _⟩ := T.2.2.2.1 m hm
    exact ⟨n, n10, e⟩
  have hxn : ∀ m, m < M → x_nameOf m = y_name m := fun m hm => by
    obtain ⟨⟨n, n10, e1, e2⟩, _⟩ := T.2.2.2.1 m hm
    rw [e1, e2]
  unfold wpX_nameFamilies
  dsimp only
  refine xV_v h10 T.2.2.1 hC hM hf (fun sg hs => ?_)
  dsimp only
  refine xW_v T hM hR hf (fun kept hk => ⟨M + 1, ?_⟩)
  have lo : ∀ q i fu nm, i + q = M → q < fu → (∀ j, j < 30 → nm j = x_nameOf j) → (∀ m, m < i → nm (30 + m) = na_it C M R x_ancestorsOf x_homeOf y_name x_ruleClasses x_ruleNames x_namedClasses x_namedMethods 0 m) → wX_nameFamilies_11 post kept x_classCount x_methodCount x_ruleCount x_isBuilt x_faultPlace x_namedClasses x_madeClasses x_namedMethods x_liveMethods x_depth x_stepCount x_outCount x_traceCount fu (nI i) x_isInterfaceClass x_chainOf x_interfacesOf x_ancestorsOf x_homeOf x_formOf nm x_lengthOf x_opOf x_classOf x_numberOf x_sourceMethod x_sourceLine x_callLine x_ruleKind x_ruleClasses x_ruleNames x_newNumber x_familyOf sg x_frameRow x_frameLine x_frameHeld x_outInts x_traceMethod x_traceLine := by
    intro q
    induction q with
    | zero =>
      intro i fu nm e hfu a1 a2
      obtain ⟨fu, rfl⟩ : ∃ q, fu = q + 1 := ⟨fu - 1, by omega⟩
      have e : i = M := by omega
      subst e
      rw [wX_nameFamilies_11]
      exact br_t (by rw [hM]; exact nI_le (by omega) (by omega)) ⟨i + 1, xA_b h30 hM hf hs hnn hk (fun nm h1 h2 => K nm sg h1 h2) i 0 (i + 1) nm (by omega) (by omega) a1 a2⟩
    | succ q ih =>
      intro i fu nm e hfu a1 a2
      obtain ⟨fu, rfl⟩ : ∃ q, fu = q + 1 := ⟨fu - 1, by omega⟩
      have i60 : vp_in (nI (30 + i)) 60 := vp_in_nI (by omega) (by decide)
      have nx : ∀ v, v = na_it C M R x_ancestorsOf x_homeOf y_name x_ruleClasses x_ruleNames x_namedClasses x_namedMethods 0 i → wX_nameFamilies_11 post kept x_classCount x_methodCount x_ruleCount x_isBuilt x_faultPlace x_namedClasses x_madeClasses x_namedMethods x_liveMethods x_depth x_stepCount x_outCount x_traceCount fu (nI (i + 1)) x_isInterfaceClass x_chainOf x_interfacesOf x_ancestorsOf x_homeOf x_formOf (upd nm (30 + i) v) x_lengthOf x_opOf x_classOf x_numberOf x_sourceMethod x_sourceLine x_callLine x_ruleKind x_ruleClasses x_ruleNames x_newNumber x_familyOf sg x_frameRow x_frameLine x_frameHeld x_outInts x_traceMethod x_traceLine := fun v hv => ih (i + 1) fu _ (by omega) (by omega) (fun j hj => by rw [pk_un (by omega)]; exact a1 j hj) (fun m hm => by
        by_cases c : m = i
        · subst c; rw [pk_us]; exact hv
        · rw [pk_un (by omega)]; exact a2 m (by omega))
      rw [wX_nameFamilies_11]
      refine br_f (by rw [hM]; exact nI_ge (by omega) (by omega)) ?_
      rw [nI_b30, nI_c (show 30 + i < 10000 by omega), nI_c (show i < 10000 by omega)]
      refine (xh_b (by omega) (fun y => ⟨vp_in_nI (by omega) (by decide), i60, nm_e (nm_r (nI_1 i) (nx _ ?_))⟩) (fun y => ⟨i60, nm_e (nm_r (nI_1 i) (nx _ ?_))⟩))
      · rw [a1 i (by omega), hxn i (by omega)]
        exact (if_pos ((hk i).mp y)).symm
      · exact (if_neg (fun q => y ((hk i).mpr q))).symm
  exact lo M 0 (M + 1) _ (by omega) (by omega) (fun _ _ => rfl) (fun m hm => by omega)
end
