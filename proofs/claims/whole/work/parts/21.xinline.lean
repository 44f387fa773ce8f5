/-! ===== X's targets and short methods ===== -/
section
variable {x_classCount x_methodCount x_ruleCount x_isBuilt x_faultPlace x_namedClasses x_madeClasses x_namedMethods x_liveMethods x_depth x_stepCount x_outCount x_traceCount : Int32} {x_isInterfaceClass x_chainOf x_interfacesOf x_ancestorsOf x_homeOf x_formOf x_nameOf x_lengthOf x_opOf x_classOf x_numberOf x_sourceMethod x_sourceLine x_callLine x_ruleKind x_ruleClasses x_ruleNames x_newNumber x_familyOf x_sightOf x_frameRow x_frameLine x_frameHeld x_outInts x_traceMethod x_traceLine : Nat → Int32} {y_parent y_many y_isAbstract y_name y_length y_op y_first y_second : Nat → Int32} {C M R : Nat}
theorem xO_v (T : tp_p C M R x_isInterfaceClass x_ancestorsOf x_interfacesOf x_chainOf y_parent y_many x_homeOf x_ruleKind x_ruleClasses x_ruleNames x_formOf x_nameOf x_lengthOf y_isAbstract y_name y_length x_opOf x_classOf x_numberOf x_sourceMethod x_sourceLine x_callLine y_op y_first y_second) (hC : x_classCount = nI C) (hM : x_methodCount = nI M) {post : Int32 → Prop} {k : Nat} {n : Int32} (hk : k < C) (hf : ∃ g, fo_v M x_ancestorsOf x_chainOf x_homeOf y_name k n = some g)
    (K1 : ∀ t, t < M → (∃ d, d < C ∧ bt x_madeClasses d = true ∧ bt (x_ancestorsOf d) k = true) → (∀ d, d < C → bt x_madeClasses d = true → bt (x_ancestorsOf d) k = true → fo_v M x_ancestorsOf x_chainOf x_homeOf y_name d n = some t) → post (nI t))
    (K0 : (∀ t, (∃ d, d < C ∧ bt x_madeClasses d = true ∧ bt (x_ancestorsOf d) k = true) → ¬ (∀ d, d < C → bt x_madeClasses d = true → bt (x_ancestorsOf d) k = true → fo_v M x_ancestorsOf x_chainOf x_homeOf y_name d n = some t)) → post (-1)) :
    wpX_onlyTarget post (x_classCount, x_methodCount, x_ruleCount, x_isBuilt, x_faultPlace, x_namedClasses, x_madeClasses, x_namedMethods, x_liveMethods, x_depth, x_stepCount, x_outCount, x_traceCount, x_isInterfaceClass, x_chainOf, x_interfacesOf, x_ancestorsOf, x_homeOf, x_formOf, x_nameOf, x_lengthOf, x_opOf, x_classOf, x_numberOf, x_sourceMethod, x_sourceLine, x_callLine, x_ruleKind, x_ruleClasses, x_ruleNames, x_newNumber, x_familyOf, x_sightOf, x_frameRow, x_frameLine, x_frameHeld, x_outInts, x_traceMethod, x_traceLine) (nI k) n := by
  have h10 := T.1.1
  have h30 := T.2.2.1.1
  obtain ⟨g, eg⟩ := hf
  have lo : ∀ q i f (s : Option Nat), i + q = C → q < f →
      ((s = none ∧ ∀ d, d < i → bt x_madeClasses d = true → ¬ bt (x_ancestorsOf d) k = true) ∨
        ∃ t, s = some t ∧ t < M ∧ (∃ d, d < i ∧ bt x_madeClasses d = true ∧ bt (x_ancestorsOf d) k = true) ∧ ∀ d, d < i → bt x_madeClasses d = true → bt (x_ancestorsOf d) k = true → fo_v M x_ancestorsOf x_chainOf x_homeOf y_name d n = some t) →
      wX_onlyTarget_5 post (nI k) n x_classCount x_methodCount x_ruleCount x_isBuilt x_faultPlace x_namedClasses x_madeClasses x_namedMethods x_liveMethods x_depth x_stepCount x_outCount x_traceCount x_isInterfaceClass x_chainOf x_interfacesOf x_ancestorsOf x_homeOf x_formOf x_nameOf x_lengthOf x_opOf x_classOf x_numberOf x_sourceMethod x_sourceLine x_callLine x_ruleKind x_ruleClasses x_ruleNames x_newNumber x_familyOf x_sightOf x_frameRow x_frameLine x_frameHeld x_outInts x_traceMethod x_traceLine f (oI s) (nI i) := by
    intro q
    induction q with
    | zero =>
      intro i f s e hf z
      obtain ⟨f, rfl⟩ : ∃ q, f = q + 1 := ⟨f - 1, by omega⟩
      have e : i = C := by omega
      subst e
      rw [wX_onlyTarget_5]
      refine br_t (by rw [hC]; exact nI_le (by omega) (by omega)) ?_
      rcases z with ⟨rfl, z⟩ | ⟨t, rfl, tM, dd, z⟩
      · exact K0 (fun t ⟨d, d1, d2, d3⟩ => absurd d3 (z d d1 d2))
      · exact K1 t tM dd z
    | succ q ih =>
      intro i f s e hf z
      obtain ⟨f, rfl⟩ : ∃ q, f = q + 1 := ⟨f - 1, by omega⟩
      have nx : ¬ (bt x_madeClasses i = true ∧ bt (x_ancestorsOf i) k = true) → wX_onlyTarget_5 post (nI k) n x_classCount x_methodCount x_ruleCount x_isBuilt x_faultPlace x_namedClasses x_madeClasses x_namedMethods x_liveMethods x_depth x_stepCount x_outCount x_traceCount x_isInterfaceClass x_chainOf x_interfacesOf x_ancestorsOf x_homeOf x_formOf x_nameOf x_lengthOf x_opOf x_classOf x_numberOf x_sourceMethod x_sourceLine x_callLine x_ruleKind x_ruleClasses x_ruleNames x_newNumber x_familyOf x_sightOf x_frameRow x_frameLine x_frameHeld x_outInts x_traceMethod x_traceLine f (oI s) (nI (i + 1)) := fun y =>
        ih (i + 1) f s (by omega) (by omega) (by
          rcases z with ⟨z1, z2⟩ | ⟨t, z1, z2, ⟨d, d1, d2⟩, z4⟩
          · refine Or.inl ⟨z1, fun d hd x w => ?_⟩
            rcases Nat.lt_or_ge d i with v | v
            · exact z2 d v x w
            · have : d = i := by omega
              subst this; exact y ⟨x, w⟩
          · refine Or.inr ⟨t, z1, z2, ⟨d, by omega, d2⟩, fun d hd x w => ?_⟩
            rcases Nat.lt_or_ge d i with v | v
            · exact z4 d v x w
            · have : d = i := by omega
              subst this; exact absurd ⟨x, w⟩ y)
      rw [wX_onlyTarget_5]
      refine br_f (by rw [hC]; exact nI_ge (by omega) (by omega)) (xh_b (by omega) (fun y => xd_b (by omega) (by omega) (fun x => ?_) (fun x => nm_r (nI_1 i) (nx (fun q => x q.2)))) (fun y => nm_r (nI_1 i) (nx (fun q => y q.1))))
      obtain ⟨m, em⟩ := fd_up T.1 hk (d := i) (by omega) eg x
      have hm := (fd_s T.1 (by omega) em).1
      have em' : fo_v M x_ancestorsOf x_chainOf x_homeOf y_name i n = some m := em
      refine xo_v T hM (by omega) ?_
      rw [em', oI_s]
      have nxt : (s = none ∨ s = some m) → wX_onlyTarget_5 post (nI k) n x_classCount x_methodCount x_ruleCount x_isBuilt x_faultPlace x_namedClasses x_madeClasses x_namedMethods x_liveMethods x_depth x_stepCount x_outCount x_traceCount x_isInterfaceClass x_chainOf x_interfacesOf x_ancestorsOf x_homeOf x_formOf x_nameOf x_lengthOf x_opOf x_classOf x_numberOf x_sourceMethod x_sourceLine x_callLine x_ruleKind x_ruleClasses x_ruleNames x_newNumber x_familyOf x_sightOf x_frameRow x_frameLine x_frameHeld x_outInts x_traceMethod x_traceLine f (nI m) (nI (i + 1)) := fun sm =>
        ih (i + 1) f (some m) (by omega) (by omega) (Or.inr ⟨m, rfl, hm, ⟨i, by omega, y, x⟩, fun d hd w v => by
          rcases Nat.lt_or_ge d i with u | u
          · rcases z with ⟨z1, z2⟩ | ⟨t, z1, z2, _, z4⟩
            · exact absurd v (z2 d u w)
            · rcases sm with q | q
              · rw [z1] at q; exact absurd q (by simp)
              · rw [z1] at q
                have : t = m := by simpa using q
                subst this; exact z4 d u w v
          · have : d = i := by omega
            subst this; exact em'⟩)
      rcases z with ⟨z1, z2⟩ | ⟨t, z1, tM, ⟨d, d1, d2, d3⟩, z4⟩
      · subst z1
        exact br_t rfl (nm_r (nI_1 i) (nxt (Or.inl rfl)))
      · subst z1
        refine br_f (oI_n (by omega)) ?_
        rw [oI_s]
        refine pk_eq t m (fun w => ?_) (fun w => K0 (fun t' _ ht => ?_))
        · subst w; exact nm_r (nI_1 i) (nxt (Or.inr rfl))
        · have a1 := ht i (by omega) y x
          rw [em'] at a1
          have a1 : m = t' := by simpa using a1
          have a2 := ht d (by omega) d2 d3
          rw [z4 d d1 d2 d3] at a2
          have a2 : t = t' := by simpa using a2
          omega
  unfold wpX_onlyTarget
  exact ⟨C + 1, lo C 0 (C + 1) none (by omega) (by omega) (Or.inl ⟨rfl, fun d hd => by omega⟩)⟩
/-- the cells of the told program in X and Y -/
theorem xc_c (T : tp_p C M R x_isInterfaceClass x_ancestorsOf x_interfacesOf x_chainOf y_parent y_many x_homeOf x_ruleKind x_ruleClasses x_ruleNames x_formOf x_nameOf x_lengthOf y_isAbstract y_name y_length x_opOf x_classOf x_numberOf x_sourceMethod x_sourceLine x_callLine y_op y_first y_second) (NF : ff_v C M x_isInterfaceClass x_ancestorsOf x_chainOf x_homeOf y_isAbstract y_name y_length y_op y_first y_second = none) {m k : Nat} (hm : m < M) (hk : k < hq_t (y_length m)) :
    ∃ o, o < 6 ∧ y_op (6 * m + k) = nI o ∧ x_opOf (24 * m + k) = nI o ∧
      ((1 ≤ o ∧ o ≤ 4) → ∃ q, q < C ∧ y_first (6 * m + k) = nI q ∧ x_classOf (24 * m + k) = nI q) ∧ (¬ (1 ≤ o ∧ o ≤ 4) → x_classOf (24 * m + k) = -1) ∧
      (o = 2 ∨ o = 3 → (x_numberOf (24 * m + k) = y_second (6 * m + k)) ∧ ∃ g, fo_v M x_ancestorsOf x_chainOf x_homeOf y_name (hq_t (y_first (6 * m + k))) (y_second (6 * m + k)) = some g ∧ (o = 3 → y_isAbstract g = 0)) := by
  obtain ⟨_, l1, l6⟩ := tp_len T hm
  obtain ⟨o, o6, e1, e2, e3, e4, e5, _⟩ := T.2.2.2.2.2.1 m k hm hk
  have z := ff_n NF hm (by omega) hk
  refine ⟨o, o6, e2, e1, fun h14 => ?_, e4, fun h => ?_⟩
  · obtain ⟨q, q10, f1, f2⟩ := e3 h14
    have no : ¬ (y_op (6 * m + k) = 0 ∨ y_op (6 * m + k) = 5) := by
      rw [e2]
      rintro (y | y)
      · have := (nI_eq (a := o) (b := 0) (by omega) (by omega)).mp y; omega
      · have := (nI_eq (a := o) (b := 5) (by omega) (by omega)).mp y; omega
    have := fl_c z no
    rw [f2, hq_e (by omega)] at this
    exact ⟨q, this, f2, f1⟩
  · have o23 : y_op (6 * m + k) = 2 ∨ y_op (6 * m + k) = 3 := by
      rw [e2]
      rcases h with h | h
      · subst h; exact Or.inl rfl
      · subst h; exact Or.inr rfl
    obtain ⟨n, _, g1, g2⟩ := e5 h
    obtain ⟨g, eg, ag⟩ := fl_f z o23
    refine ⟨by rw [g1, g2], g, eg, fun o3 => ag ?_⟩
    rw [e2, o3]; rfl
theorem xT_v (T : tp_p C M R x_isInterfaceClass x_ancestorsOf x_interfacesOf x_chainOf y_parent y_many x_homeOf x_ruleKind x_ruleClasses x_ruleNames x_formOf x_nameOf x_lengthOf y_isAbstract y_name y_length x_opOf x_classOf x_numberOf x_sourceMethod x_sourceLine x_callLine y_op y_first y_second) (NF : ff_v C M x_isInterfaceClass x_ancestorsOf x_chainOf x_homeOf y_isAbstract y_name y_length y_op y_first y_second = none) (hC : x_classCount = nI C) (hM : x_methodCount = nI M) {post : Int32 → Prop} {m k : Nat} (hm : m < M) (hk : k < hq_t (y_length m))
    (K1 : ∀ t, t < M → tg_p C x_ancestorsOf x_madeClasses (fo_v M x_ancestorsOf x_chainOf x_homeOf y_name) (y_op (6 * m + k)) (y_first (6 * m + k)) (y_second (6 * m + k)) t → post (nI t)) (K0 : (∀ t, ¬ tg_p C x_ancestorsOf x_madeClasses (fo_v M x_ancestorsOf x_chainOf x_homeOf y_name) (y_op (6 * m + k)) (y_first (6 * m + k)) (y_second (6 * m + k)) t) → post (-1)) : wpX_targetOf post (x_classCount, x_methodCount, x_ruleCount, x_isBuilt, x_faultPlace, x_namedClasses, x_madeClasses, x_namedMethods, x_liveMethods, x_depth, x_stepCount, x_outCount, x_traceCount, x_isInterfaceClass, x_chainOf, x_interfacesOf, x_ancestorsOf, x_homeOf, x_formOf, x_nameOf, x_lengthOf, x_opOf, x_classOf, x_numberOf, x_sourceMethod, x_sourceLine, x_callLine, x_ruleKind, x_ruleClasses, x_ruleNames, x_newNumber, x_familyOf, x_sightOf, x_frameRow, x_frameLine, x_frameHeld, x_outInts, x_traceMethod, x_traceLine) (nI (24 * m + k)) := by
  have h10 := T.1.1
  have h30 := T.2.2.1.1
  have l6 := (tp_len T hm).2.2
  obtain ⟨o, o6, ey, ex, g1, g2, g3⟩ := xc_c T NF hm hk
  unfold wpX_targetOf
  dsimp only
  rw [nI_c (by omega)]
  refine ⟨vp_in_nI (by omega) (by decide), nm_r ex (pk_eq o 2 (fun z => ⟨vp_in_nI (by omega) (by decide), vp_in_nI (by omega) (by decide), ?_⟩) (fun z2 => pk_eq o 3 (fun z => ⟨vp_in_nI (by omega) (by decide), vp_in_nI (by omega) (by decide), ?_⟩) (fun z3 => K0 (fun t ht => ?_))))⟩
  · subst z
    obtain ⟨q, hq, f1, f2⟩ := g1 (by omega)
    obtain ⟨en, g, eg, _⟩ := g3 (Or.inl rfl)
    have hqe : hq_t (nI q) = q := hq_e (by omega)
    rw [f1, hqe] at eg
    rw [f2, en]
    refine xO_v T hC hM hq ⟨g, eg⟩ (fun t tM d1 d2 => K1 t tM (Or.inr ⟨ey, ?_, ?_⟩)) (fun z => K0 (fun t ht => ?_))
    · rw [f1, hqe]; exact d1
    · rw [f1, hqe]; exact d2
    · rcases ht with ⟨y, _⟩ | ⟨_, d1, d2⟩
      · rw [ey] at y; exact absurd y (by decide)
      · rw [f1, hqe] at d1 d2; exact z t d1 d2
  · subst z
    obtain ⟨q, hq, f1, f2⟩ := g1 (by omega)
    obtain ⟨en, g, eg, _⟩ := g3 (Or.inr rfl)
    have hqe : hq_t (nI q) = q := hq_e (by omega)
    rw [f2, en]
    refine xo_v T hM hq ?_
    have eg' := eg
    rw [f1, hqe] at eg'
    rw [eg', oI_s]
    exact K1 g (fd_s T.1 hq eg').1 (Or.inl ⟨ey, eg⟩)
  · rcases ht with ⟨y, _⟩ | ⟨y, _⟩
    · rw [ey] at y; exact z3 ((nI_eq (a := o) (b := 3) (by omega) (by omega)).mp y)
    · rw [ey] at y; exact z2 ((nI_eq (a := o) (b := 2) (by omega) (by omega)).mp y)
theorem xS_b (T : tp_p C M R x_isInterfaceClass x_ancestorsOf x_interfacesOf x_chainOf y_parent y_many x_homeOf x_ruleKind x_ruleClasses x_ruleNames x_formOf x_nameOf x_lengthOf y_isAbstract y_name y_length x_opOf x_classOf x_numberOf x_sourceMethod x_sourceLine x_callLine y_op y_first y_second) {A B : Prop} {t : Nat} (ht : t < M) (tr : y_isAbstract t = 0 → sh_p y_length y_op t → B) (fa : ¬ (y_isAbstract t = 0 ∧ sh_p y_length y_op t) → A) :
    wpX_isShort (fun z => (z = 0 → A) ∧ (¬ z = 0 → B)) (x_classCount, x_methodCount, x_ruleCount, x_isBuilt, x_faultPlace, x_namedClasses, x_madeClasses, x_namedMethods, x_liveMethods, x_depth, x_stepCount, x_outCount, x_traceCount, x_isInterfaceClass, x_chainOf, x_interfacesOf, x_ancestorsOf, x_homeOf, x_formOf, x_nameOf, x_lengthOf, x_opOf, x_classOf, x_numberOf, x_sourceMethod, x_sourceLine, x_callLine, x_ruleKind, x_ruleClasses, x_ruleNames, x_newNumber, x_familyOf, x_sightOf, x_frameRow, x_frameLine, x_frameHeld, x_outInts, x_traceMethod, x_traceLine) (nI t) := by
  have h30 := T.2.2.1.1
  obtain ⟨l1, _, l6⟩ := tp_len T ht
  have lo : hq_t (y_length t) ≤ 3 → y_isAbstract t = 0 → ∀ q i f, i + q = hq_t (y_length t) → q < f → (∀ k, k < i → y_op (6 * t + k) = 0 ∨ y_op (6 * t + k) = 5) → wX_isShort_24 (fun z => (z = 0 → A) ∧ (¬ z = 0 → B)) (nI t) x_classCount x_methodCount x_ruleCount x_isBuilt x_faultPlace x_namedClasses x_madeClasses x_namedMethods x_liveMethods x_depth x_stepCount x_outCount x_traceCount x_isInterfaceClass x_chainOf x_interfacesOf x_ancestorsOf x_homeOf x_formOf x_nameOf x_lengthOf x_opOf x_classOf x_numberOf x_sourceMethod x_sourceLine x_callLine x_ruleKind x_ruleClasses x_ruleNames x_newNumber x_familyOf x_sightOf x_frameRow x_frameLine x_frameHeld x_outInts x_traceMethod x_traceLine f (nI i) := by
    intro l3 ab q
    induction q with
    | zero =>
      intro i f e hf z
      obtain ⟨f, rfl⟩ : ∃ q, f = q + 1 := ⟨f - 1, by omega⟩
      rw [wX_isShort_24]
      refine ⟨vp_in_nI (by omega) (by decide), ?_⟩
      rw [nI_c (by omega), l1]
      exact br_t (nI_le (by omega) (by omega)) (br_1 (tr ab ⟨l3, fun k hk => z k (by omega)⟩))
    | succ q ih =>
      intro i f e hf z
      obtain ⟨f, rfl⟩ : ∃ q, f = q + 1 := ⟨f - 1, by omega⟩
      have nx : (y_op (6 * t + i) = 0 ∨ y_op (6 * t + i) = 5) → wX_isShort_24 (fun z => (z = 0 → A) ∧ (¬ z = 0 → B)) (nI t) x_classCount x_methodCount x_ruleCount x_isBuilt x_faultPlace x_namedClasses x_madeClasses x_namedMethods x_liveMethods x_depth x_stepCount x_outCount x_traceCount x_isInterfaceClass x_chainOf x_interfacesOf x_ancestorsOf x_homeOf x_formOf x_nameOf x_lengthOf x_opOf x_classOf x_numberOf x_sourceMethod x_sourceLine x_callLine x_ruleKind x_ruleClasses x_ruleNames x_newNumber x_familyOf x_sightOf x_frameRow x_frameLine x_frameHeld x_outInts x_traceMethod x_traceLine f (nI (i + 1)) := fun y =>
        ih (i + 1) f (by omega) (by omega) (fun k hk => by
          rcases Nat.lt_or_ge k i with v | v
          · exact z k v
          · have : k = i := by omega
            subst this; exact y)
      obtain ⟨o, o6, e1, e2, _⟩ := T.2.2.2.2.2.1 t i ht (by omega)
      rw [wX_isShort_24]
      refine ⟨vp_in_nI (by omega) (by decide), ?_⟩
      rw [nI_c (show t < 10000 by omega), l1, nI_a24, nI_c (show 24 * t + i < 10000 by omega)]
      refine br_f (nI_ge (by omega) (by omega)) ⟨vp_in_nI (by omega) (by decide), nm_r (e1.trans e2.symm) (br_c (fun y => nm_r (nI_1 _) (nx (Or.inl y))) (fun y => br_c (fun x => nm_r (nI_1 _) (nx (Or.inr x))) (fun x => br_0 (fa (fun q => ?_)))))⟩
      rcases q.2.2 i (by omega) with w | w
      · exact y w
      · exact x w
  unfold wpX_isShort
  dsimp only
  rw [nI_c (by omega), l1]
  refine ⟨vp_in_nI (by omega) (by decide), ?_⟩
  rcases (T.2.2.2.1 t ht).2.2.1 with ⟨a1, a2⟩ | ⟨a1, a2⟩
  · refine br_t a2 ⟨vp_in_nI (by omega) (by decide), pk_le (hq_t (y_length t)) 3 (fun y => ⟨hq_t (y_length t) + 1, lo y a1 (hq_t (y_length t)) 0 _ (by omega) (by omega) (fun k hk => by omega)⟩) (fun y => br_0 (fa (fun q => by have := q.2.1; omega)))⟩
  · exact br_f (by rw [a2]; decide) (br_0 (fa (fun q => a1 q.1)))
end
