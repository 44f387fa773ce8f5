/-! ===== names: X ===== -/
section
variable {x_classCount x_methodCount x_ruleCount x_isBuilt x_faultPlace x_namedClasses x_madeClasses x_namedMethods x_liveMethods x_depth x_stepCount x_outCount x_traceCount : Int32} {x_isInterfaceClass x_chainOf x_interfacesOf x_ancestorsOf x_homeOf x_formOf x_nameOf x_lengthOf x_opOf x_classOf x_numberOf x_sourceMethod x_sourceLine x_callLine x_ruleKind x_ruleClasses x_ruleNames x_newNumber x_familyOf x_sightOf x_frameRow x_frameLine x_frameHeld x_outInts x_traceMethod x_traceLine : Nat → Int32} {C M R : Nat} {y_name : Nat → Int32}
theorem xV_l (h10 : C ≤ 10) (g : mh_ok C M x_homeOf) (hC : x_classCount = nI C) (hf : (∀ m, m < M → x_familyOf m = nI (kn_f C M x_ancestorsOf x_homeOf y_name x_namedClasses x_namedMethods m))) {post : SX → Prop} {J : Int32 → (Nat → Int32) → (Nat → Int32) → (Nat → Int32) → (Nat → Int32) → (Nat → Int32) → (Nat → Int32) → (Nat → Int32) → (Nat → Int32) → (Nat → Int32) → (Nat → Int32) → (Nat → Int32) → (Nat → Int32) → (Nat → Int32) → (Nat → Int32) → (Nat → Int32) → (Nat → Int32) → (Nat → Int32) → (Nat → Int32) → (Nat → Int32) → (Nat → Int32) → (Nat → Int32) → (Nat → Int32) → (Nat → Int32) → (Nat → Int32) → (Nat → Int32) → (Nat → Int32) → Prop} {i : Nat} (hi : i < M)
    (K : ∀ sg, (∀ f e, f < M → (bt (sg f) e = true ↔ ∃ m', m' < i + 1 ∧ e < C ∧ (bt x_namedMethods m' = true ∧ kn_f C M x_ancestorsOf x_homeOf y_name x_namedClasses x_namedMethods m' = f ∧ bt x_namedClasses e = true ∧ bt (x_ancestorsOf e) (hq_t (x_homeOf m')) = true))) → J (nI (i + 1)) x_isInterfaceClass x_chainOf x_interfacesOf x_ancestorsOf x_homeOf x_formOf x_nameOf x_lengthOf x_opOf x_classOf x_numberOf x_sourceMethod x_sourceLine x_callLine x_ruleKind x_ruleClasses x_ruleNames x_newNumber x_familyOf sg x_frameRow x_frameLine x_frameHeld x_outInts x_traceMethod x_traceLine) :
    ∀ n k fu sg, k + n = C → n < fu → (∀ f e, f < M → (bt (sg f) e = true ↔ ∃ m', (m' < i ∧ e < C ∨ m' = i ∧ e < k) ∧ (bt x_namedMethods m' = true ∧ kn_f C M x_ancestorsOf x_homeOf y_name x_namedClasses x_namedMethods m' = f ∧ bt x_namedClasses e = true ∧ bt (x_ancestorsOf e) (hq_t (x_homeOf m')) = true))) → wX_seeFamilies_35 post J (nI i) x_classCount x_methodCount x_ruleCount x_isBuilt x_faultPlace x_namedClasses x_madeClasses x_namedMethods x_liveMethods x_depth x_stepCount x_outCount x_traceCount fu (nI k) x_isInterfaceClass x_chainOf x_interfacesOf x_ancestorsOf x_homeOf x_formOf x_nameOf x_lengthOf x_opOf x_classOf x_numberOf x_sourceMethod x_sourceLine x_callLine x_ruleKind x_ruleClasses x_ruleNames x_newNumber x_familyOf sg x_frameRow x_frameLine x_frameHeld x_outInts x_traceMethod x_traceLine := by
  have h30 := g.1
  obtain ⟨o1, o2⟩ := mh_h g h10 hi
  have kl := kn_le (C := C) (M := M) (anc := x_ancestorsOf) (hom := x_homeOf) (nam := y_name) (N := x_namedClasses) (Q := x_namedMethods) i
  intro n
  induction n with
  | zero =>
    intro k fu sg e hfu z
    obtain ⟨fu, rfl⟩ : ∃ q, fu = q + 1 := ⟨fu - 1, by omega⟩
    have e : k = C := by omega
    subst e
    rw [wX_seeFamilies_35]
    refine br_t (by rw [hC]; exact nI_le (by omega) (by omega)) (nm_r (nI_1 i) (K sg (fun f e hfM => (z f e hfM).trans ⟨?_, ?_⟩)))
    · rintro ⟨m', h | h, b⟩
      · exact ⟨m', by omega, h.2, b⟩
      · exact ⟨m', by omega, h.2, b⟩
    · rintro ⟨m', h1, h2, b⟩
      rcases Nat.lt_or_ge m' i with w | w
      · exact ⟨m', Or.inl ⟨w, h2⟩, b⟩
      · exact ⟨m', Or.inr ⟨by omega, h2⟩, b⟩
  | succ n ih =>
    intro k fu sg e hfu z
    obtain ⟨fu, rfl⟩ : ∃ q, fu = q + 1 := ⟨fu - 1, by omega⟩
    have nx : ¬ (bt x_namedMethods i = true ∧ bt x_namedClasses k = true ∧ bt (x_ancestorsOf k) (hq_t (x_homeOf i)) = true) → wX_seeFamilies_35 post J (nI i) x_classCount x_methodCount x_ruleCount x_isBuilt x_faultPlace x_namedClasses x_madeClasses x_namedMethods x_liveMethods x_depth x_stepCount x_outCount x_traceCount fu (nI (k + 1)) x_isInterfaceClass x_chainOf x_interfacesOf x_ancestorsOf x_homeOf x_formOf x_nameOf x_lengthOf x_opOf x_classOf x_numberOf x_sourceMethod x_sourceLine x_callLine x_ruleKind x_ruleClasses x_ruleNames x_newNumber x_familyOf sg x_frameRow x_frameLine x_frameHeld x_outInts x_traceMethod x_traceLine := fun y =>
      ih (k + 1) fu sg (by omega) (by omega) (fun f e hfM => (z f e hfM).trans ⟨fun ⟨m', h, b⟩ => ⟨m', by omega, b⟩, fun ⟨m', h, b⟩ => by
        rcases h with h | h
        · exact ⟨m', Or.inl h, b⟩
        · rcases Nat.lt_or_ge e k with w | w
          · exact ⟨m', Or.inr ⟨h.1, w⟩, b⟩
          · have e1 : e = k := by omega
            have e2 := h.1
            subst e1 e2
            exact absurd ⟨b.1, b.2.2.1, b.2.2.2⟩ y⟩)
    rw [wX_seeFamilies_35]
    refine br_f (by rw [hC]; exact nI_ge (by omega) (by omega)) (xh_b (by omega) (fun b1 => xh_b (by omega) (fun b2 => ⟨vp_in_nI (by omega) (by decide), ?_⟩) (fun y => nm_r (nI_1 k) (nx (fun q => y q.2.1)))) (fun y => nm_r (nI_1 k) (nx (fun q => y q.1))))
    rw [nI_c (show i < 10000 by omega), o1]
    refine xd_b (by omega) (by omega) (fun b3 => ⟨vp_in_nI (by omega) (by decide), ?_⟩) (fun y => nm_r (nI_1 k) (nx (fun q => y q.2.2)))
    rw [hf i hi, nI_c (show kn_f C M x_ancestorsOf x_homeOf y_name x_namedClasses x_namedMethods i < 10000 by omega)]
    have i30 : vp_in (nI (kn_f C M x_ancestorsOf x_homeOf y_name x_namedClasses x_namedMethods i)) 30 := vp_in_nI (by omega) (by decide)
    refine ⟨i30, i30, nm_e (nm_r (nI_1 k) (ih (k + 1) fu _ (by omega) (by omega) (fun f e hfM => ?_)))⟩
    by_cases c : f = kn_f C M x_ancestorsOf x_homeOf y_name x_namedClasses x_namedMethods i
    · rw [c, pk_us, bq_o1 _ (by omega), z _ e (by omega)]
      constructor
      · rintro (⟨m', h, b⟩ | h)
        · exact ⟨m', by omega, b⟩
        · subst h; exact ⟨i, Or.inr ⟨rfl, by omega⟩, b1, rfl, b2, b3⟩
      · rintro ⟨m', h, b⟩
        rcases Nat.lt_or_ge e k with w | w
        · exact Or.inl ⟨m', by omega, b⟩
        · rcases h with h | h
          · exact Or.inl ⟨m', Or.inl h, b⟩
          · exact Or.inr (by omega)
    · rw [pk_un c, z f e hfM]
      constructor
      · rintro ⟨m', h, b⟩; exact ⟨m', by omega, b⟩
      · rintro ⟨m', h, b⟩
        rcases h with h | h
        · exact ⟨m', Or.inl h, b⟩
        · have e2 := h.1
          subst e2
          exact absurd b.2.1.symm c
theorem xV_v (h10 : C ≤ 10) (g : mh_ok C M x_homeOf) (hC : x_classCount = nI C) (hM : x_methodCount = nI M) (hf : (∀ m, m < M → x_familyOf m = nI (kn_f C M x_ancestorsOf x_homeOf y_name x_namedClasses x_namedMethods m))) {post : SX → Prop}
    (K : ∀ sg, (∀ f e, f < M → (bt (sg f) e = true ↔ sg_p C M x_ancestorsOf x_homeOf y_name x_namedClasses x_namedMethods f e)) → post (x_classCount, x_methodCount, x_ruleCount, x_isBuilt, x_faultPlace, x_namedClasses, x_madeClasses, x_namedMethods, x_liveMethods, x_depth, x_stepCount, x_outCount, x_traceCount, x_isInterfaceClass, x_chainOf, x_interfacesOf, x_ancestorsOf, x_homeOf, x_formOf, x_nameOf, x_lengthOf, x_opOf, x_classOf, x_numberOf, x_sourceMethod, x_sourceLine, x_callLine, x_ruleKind, x_ruleClasses, x_ruleNames, x_newNumber, x_familyOf, sg, x_frameRow, x_frameLine, x_frameHeld, x_outInts, x_traceMethod, x_traceLine)) : wpX_seeFamilies post (x_classCount, x_methodCount, x_ruleCount, x_isBuilt, x_faultPlace, x_namedClasses, x_madeClasses, x_namedMethods, x_liveMethods, x_depth, x_stepCount, x_outCount, x_traceCount, x_isInterfaceClass, x_chainOf, x_interfacesOf, x_ancestorsOf, x_homeOf, x_formOf, x_nameOf, x_lengthOf, x_opOf, x_classOf, x_numberOf, x_sourceMethod, x_sourceLine, x_callLine, x_ruleKind, x_ruleClasses, x_ruleNames, x_newNumber, x_familyOf, x_sightOf, x_frameRow, x_frameLine, x_frameHeld, x_outInts, x_traceMethod, x_traceLine) := by
  have h30 := g.1
  have lo : ∀ n i fu sg, i + n = M → n < fu → (∀ f e, f < M → (bt (sg f) e = true ↔ ∃ m', m' < i ∧ e < C ∧ (bt x_namedMethods m' = true ∧ kn_f C M x_ancestorsOf x_homeOf y_name x_namedClasses x_namedMethods m' = f ∧ bt x_namedClasses e = true ∧ bt (x_ancestorsOf e) (hq_t (x_homeOf m')) = true))) → wX_seeFamilies_25 post x_classCount x_methodCount x_ruleCount x_isBuilt x_faultPlace x_namedClasses x_madeClasses x_namedMethods x_liveMethods x_depth x_stepCount x_outCount x_traceCount fu (nI i) x_isInterfaceClass x_chainOf x_interfacesOf x_ancestorsOf x_homeOf x_formOf x_nameOf x_lengthOf x_opOf x_classOf x_numberOf x_sourceMethod x_sourceLine x_callLine x_ruleKind x_ruleClasses x_ruleNames x_newNumber x_familyOf sg x_frameRow x_frameLine x_frameHeld x_outInts x_traceMethod x_traceLine := by
    intro n
    induction n with
    | zero =>
      intro i fu sg e hfu z
      obtain ⟨fu, rfl⟩ : ∃ q, fu = q + 1 := ⟨fu - 1, by omega⟩
      have e : i = M := by omega
      subst e
      rw [wX_seeFamilies_25]
      refine br_t (by rw [hM]; exact nI_le (by omega) (by omega)) (K sg (fun f e hfM => (z f e hfM).trans ⟨?_, ?_⟩))
      · rintro ⟨m', h1, h2, b1, b2, b3, b4⟩; exact ⟨h2, b3, m', h1, b1, b2, b4⟩
      · rintro ⟨h2, b3, m', h1, b1, b2, b4⟩; exact ⟨m', h1, h2, b1, b2, b3, b4⟩
    | succ n ih =>
      intro i fu sg e hfu z
      obtain ⟨fu, rfl⟩ : ∃ q, fu = q + 1 := ⟨fu - 1, by omega⟩
      rw [wX_seeFamilies_25]
      refine br_f (by rw [hM]; exact nI_ge (by omega) (by omega)) ⟨C + 1, ?_⟩
      refine xV_l h10 g hC hf (by omega) (fun sg' z' => ih (i + 1) fu sg' (by omega) (by omega) z') C 0 (C + 1) sg (by omega) (by omega) (fun f e hfM => (z f e hfM).trans ⟨?_, ?_⟩)
      · rintro ⟨m', h1, h2, b⟩; exact ⟨m', Or.inl ⟨h1, h2⟩, b⟩
      · rintro ⟨m', h, b⟩
        rcases h with h | h
        · exact ⟨m', h.1, h.2, b⟩
        · omega
  have st : ∀ n i fu sg, i + n = M → n < fu → (∀ f, f < i → sg f = 0) → wX_seeFamilies_2 post x_classCount x_methodCount x_ruleCount x_isBuilt x_faultPlace x_namedClasses x_madeClasses x_namedMethods x_liveMethods x_depth x_stepCount x_outCount x_traceCount fu (nI i) x_isInterfaceClass x_chainOf x_interfacesOf x_ancestorsOf x_homeOf x_formOf x_nameOf x_lengthOf x_opOf x_classOf x_numberOf x_sourceMethod x_sourceLine x_callLine x_ruleKind x_ruleClasses x_ruleNames x_newNumber x_familyOf sg x_frameRow x_frameLine x_frameHeld x_outInts x_traceMethod x_traceLine := by
    intro n
    induction n with
    | zero =>
      intro i fu sg e hfu z
      obtain ⟨fu, rfl⟩ : ∃ q, fu = q + 1 := ⟨fu - 1, by omega⟩
      have e : i = M := by omega
      subst e
      rw [wX_seeFamilies_2]
      refine br_t (by rw [hM]; exact nI_le (by omega) (by omega)) ⟨i + 1, lo i 0 (i + 1) sg (by omega) (by omega) (fun f e hfM => ?_)⟩
      rw [z f hfM, b_0]
      exact ⟨fun y => absurd y (by decide), fun ⟨m', h, _⟩ => by omega⟩
    | succ n ih =>
      intro i fu sg e hfu z
      obtain ⟨fu, rfl⟩ : ∃ q, fu = q + 1 := ⟨fu - 1, by omega⟩
      rw [wX_seeFamilies_2]
      refine br_f (by rw [hM]; exact nI_ge (by omega) (by omega)) ⟨vp_in_nI (by omega) (by decide), ?_⟩
      rw [nI_c (show i < 10000 by omega)]
      refine nm_e (nm_r (nI_1 i) (ih (i + 1) fu _ (by omega) (by omega) (fun f hfi => ?_)))
      by_cases c : f = i
      · subst c; exact pk_us
      · rw [pk_un c]; exact z f (by omega)
  unfold wpX_seeFamilies
  exact ⟨M + 1, st M 0 (M + 1) _ (by omega) (by omega) (fun f hf => by omega)⟩
theorem xW_v {y_parent y_many y_isAbstract y_length y_op y_first y_second : Nat → Int32} (T : tp_p C M R x_isInterfaceClass x_ancestorsOf x_interfacesOf x_chainOf y_parent y_many x_homeOf x_ruleKind x_ruleClasses x_ruleNames x_formOf x_nameOf x_lengthOf y_isAbstract y_name y_length x_opOf x_classOf x_numberOf x_sourceMethod x_sourceLine x_callLine y_op y_first y_second) (hM : x_methodCount = nI M) (hR : x_ruleCount = nI R) (hf : (∀ m, m < M → x_familyOf m = nI (kn_f C M x_ancestorsOf x_homeOf y_name x_namedClasses x_namedMethods m))) {post : Int32 → Prop}
    (K : ∀ kept, (∀ f, bt kept f = true ↔ kp_p C M R x_ancestorsOf x_homeOf y_name x_ruleClasses x_ruleNames x_namedClasses x_namedMethods f) → post kept) : wpX_keptFamilies post (x_classCount, x_methodCount, x_ruleCount, x_isBuilt, x_faultPlace, x_namedClasses, x_madeClasses, x_namedMethods, x_liveMethods, x_depth, x_stepCount, x_outCount, x_traceCount, x_isInterfaceClass, x_chainOf, x_interfacesOf, x_ancestorsOf, x_homeOf, x_formOf, x_nameOf, x_lengthOf, x_opOf, x_classOf, x_numberOf, x_sourceMethod, x_sourceLine, x_callLine, x_ruleKind, x_ruleClasses, x_ruleNames, x_newNumber, x_familyOf, x_sightOf, x_frameRow, x_frameLine, x_frameHeld, x_outInts, x_traceMethod, x_traceLine) := by
  have h30 := T.2.2.1.1
  have h4 := T.2.2.2.2.2.2.1
  have inn : ∀ {J : Int32 → Int32 → Prop} {i : Nat}, i < M → (∀ v, (∀ f, bt v f = true ↔ ∃ m, m < i + 1 ∧ bt x_namedMethods m = true ∧ ru_p R x_homeOf y_name x_ruleClasses x_ruleNames m ∧ kn_f C M x_ancestorsOf x_homeOf y_name x_namedClasses x_namedMethods m = f) → J v (nI (i + 1))) →
      ∀ n k fu v, k + n = R → n < fu → (∀ f, bt v f = true ↔ (∃ m, m < i ∧ bt x_namedMethods m = true ∧ ru_p R x_homeOf y_name x_ruleClasses x_ruleNames m ∧ kn_f C M x_ancestorsOf x_homeOf y_name x_namedClasses x_namedMethods m = f) ∨
        (∃ r, r < k ∧ bt x_namedMethods i = true ∧ bt (x_ruleClasses r) (hq_t (x_homeOf i)) = true ∧ bt (x_ruleNames r) (hq_t (y_name i)) = true ∧ kn_f C M x_ancestorsOf x_homeOf y_name x_namedClasses x_namedMethods i = f)) → wX_keptFamilies_14 post J (nI i) x_classCount x_methodCount x_ruleCount x_isBuilt x_faultPlace x_namedClasses x_madeClasses x_namedMethods x_liveMethods x_depth x_stepCount x_outCount x_traceCount x_isInterfaceClass x_chainOf x_interfacesOf x_ancestorsOf x_homeOf x_formOf x_nameOf x_lengthOf x_opOf x_classOf x_numberOf x_sourceMethod x_sourceLine x_callLine x_ruleKind x_ruleClasses x_ruleNames x_newNumber x_familyOf x_sightOf x_frameRow x_frameLine x_frameHeld x_outInts x_traceMethod x_traceLine fu v (nI k) := by
    intro J i hi KJ n
    have kl := kn_le (C := C) (M := M) (anc := x_ancestorsOf) (hom := x_homeOf) (nam := y_name) (N := x_namedClasses) (Q := x_namedMethods) i
    induction n with
    | zero =>
      intro k fu v e hfu z
      obtain ⟨fu, rfl⟩ : ∃ q, fu = q + 1 := ⟨fu - 1, by omega⟩
      have e : k = R := by omega
      subst e
      rw [wX_keptFamilies_14]
      refine br_t (by rw [hR]; exact nI_le (by omega) (by omega)) (nm_r (nI_1 i) (KJ v (fun f => (z f).trans ⟨?_, ?_⟩)))
      · rintro (⟨m, h, b⟩ | ⟨r, hr, b1, b2, b3, b4⟩)
        · exact ⟨m, by omega, b⟩
        · exact ⟨i, by omega, b1, ⟨r, hr, b2, b3⟩, b4⟩
      · rintro ⟨m, h, b⟩
        rcases Nat.lt_or_ge m i with w | w
        · exact Or.inl ⟨m, w, b⟩
        · have : m = i := by omega
          subst this
          obtain ⟨b1, ⟨r, hr, b2, b3⟩, b4⟩ := b
          exact Or.inr ⟨r, hr, b1, b2, b3, b4⟩
    | succ n ih =>
      intro k fu v e hfu z
      obtain ⟨fu, rfl⟩ : ∃ q, fu = q + 1 := ⟨fu - 1, by omega⟩
      have nx : ¬ (bt x_namedMethods i = true ∧ bt (x_ruleClasses k) (hq_t (x_homeOf i)) = true ∧ bt (x_ruleNames k) (hq_t (y_name i)) = true) → wX_keptFamilies_14 post J (nI i) x_classCount x_methodCount x_ruleCount x_isBuilt x_faultPlace x_namedClasses x_madeClasses x_namedMethods x_liveMethods x_depth x_stepCount x_outCount x_traceCount x_isInterfaceClass x_chainOf x_interfacesOf x_ancestorsOf x_homeOf x_formOf x_nameOf x_lengthOf x_opOf x_classOf x_numberOf x_sourceMethod x_sourceLine x_callLine x_ruleKind x_ruleClasses x_ruleNames x_newNumber x_familyOf x_sightOf x_frameRow x_frameLine x_frameHeld x_outInts x_traceMethod x_traceLine fu v (nI (k + 1)) := fun y =>
        ih (k + 1) fu v (by omega) (by omega) (fun f => (z f).trans ⟨fun h => h.elim Or.inl (fun ⟨r, hr, b⟩ => Or.inr ⟨r, by omega, b⟩), fun h => h.elim Or.inl (fun ⟨r, hr, b1, b2, b3, b4⟩ => by
          rcases Nat.lt_or_ge r k with w | w
          · exact Or.inr ⟨r, w, b1, b2, b3, b4⟩
          · have : r = k := by omega
            subst this; exact absurd ⟨b1, b2, b3⟩ y)⟩)
      rw [wX_keptFamilies_14]
      refine br_f (by rw [hR]; exact nI_ge (by omega) (by omega)) (xh_b (by omega) (fun b1 => xu_b T hi (by omega) (fun b2 b3 => ⟨vp_in_nI (by omega) (by decide), ?_⟩) (fun y => nm_r (nI_1 k) (nx (fun q => y q.2)))) (fun y => nm_r (nI_1 k) (nx (fun q => y q.1))))
      rw [nI_c (show i < 10000 by omega), hf i hi]
      refine nm_e (nm_r (nI_1 k) (ih (k + 1) fu _ (by omega) (by omega) (fun f => ?_)))
      rw [bq_o1 _ (by omega), z f]
      constructor
      · rintro ((h | ⟨r, hr, b⟩) | h)
        · exact Or.inl h
        · exact Or.inr ⟨r, by omega, b⟩
        · exact Or.inr ⟨k, by omega, b1, b2, b3, h.symm⟩
      · rintro (h | ⟨r, hr, b⟩)
        · exact Or.inl (Or.inl h)
        · exact Or.inr b.2.2.2.symm
  have lo : ∀ n i fu v, i + n = M → n < fu → (∀ f, bt v f = true ↔ ∃ m, m < i ∧ bt x_namedMethods m = true ∧ ru_p R x_homeOf y_name x_ruleClasses x_ruleNames m ∧ kn_f C M x_ancestorsOf x_homeOf y_name x_namedClasses x_namedMethods m = f) → wX_keptFamilies_4 post x_classCount x_methodCount x_ruleCount x_isBuilt x_faultPlace x_namedClasses x_madeClasses x_namedMethods x_liveMethods x_depth x_stepCount x_outCount x_traceCount x_isInterfaceClass x_chainOf x_interfacesOf x_ancestorsOf x_homeOf x_formOf x_nameOf x_lengthOf x_opOf x_classOf x_numberOf x_sourceMethod x_sourceLine x_callLine x_ruleKind x_ruleClasses x_ruleNames x_newNumber x_familyOf x_sightOf x_frameRow x_frameLine x_frameHeld x_outInts x_traceMethod x_traceLine fu v (nI i) := by
    intro n
    induction n with
    | zero =>
      intro i fu v e hfu z
      obtain ⟨fu, rfl⟩ : ∃ q, fu = q + 1 := ⟨fu - 1, by omega⟩
      have e : i = M := by omega
      subst e
      rw [wX_keptFamilies_4]
      exact br_t (by rw [hM]; exact nI_le (by omega) (by omega)) (K v z)
    | succ n ih =>
      intro i fu v e hfu z
      obtain ⟨fu, rfl⟩ : ∃ q, fu = q + 1 := ⟨fu - 1, by omega⟩
      rw [wX_keptFamilies_4]
      refine br_f (by rw [hM]; exact nI_ge (by omega) (by omega)) ⟨R + 1, ?_⟩
      exact inn (by omega) (fun v' z' => ih (i + 1) fu v' (by omega) (by omega) z') R 0 (R + 1) v (by omega) (by omega) (fun f => (z f).trans ⟨Or.inl, fun h => h.elim (fun q => q) (fun ⟨r, hr, _⟩ => by omega)⟩)
  unfold wpX_keptFamilies
  exact ⟨M + 1, lo M 0 (M + 1) 0 (by omega) (by omega) (fun f => by
    rw [b_0]
    exact ⟨fun y => absurd y (by decide), fun ⟨m, h, _⟩ => by omega⟩)⟩
end
