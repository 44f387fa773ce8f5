/-! ===== X: dropping, numbering ===== -/
section
variable {x_classCount x_methodCount x_ruleCount x_isBuilt x_faultPlace x_namedClasses x_madeClasses x_namedMethods x_liveMethods x_depth x_stepCount x_outCount x_traceCount : Int32} {x_isInterfaceClass x_chainOf x_interfacesOf x_ancestorsOf x_homeOf x_formOf x_nameOf x_lengthOf x_opOf x_classOf x_numberOf x_sourceMethod x_sourceLine x_callLine x_ruleKind x_ruleClasses x_ruleNames x_newNumber x_familyOf x_sightOf x_frameRow x_frameLine x_frameHeld x_outInts x_traceMethod x_traceLine : Nat → Int32} {C M R : Nat}
theorem xD_v (h30 : M ≤ 30) (hM : x_methodCount = nI M) {post : SX → Prop}
    (K : ∀ F L, (∀ j, j < 30 → F j = x_formOf j) → (∀ j, j < 30 → L j = x_lengthOf j) → (∀ m, m < M → F (30 + m) = if bt x_liveMethods m = true then 2 else if bt x_namedMethods m = true then 1 else 0) →
      (∀ m, m < M → L (30 + m) = if bt x_liveMethods m = true then x_lengthOf (30 + m) else 0) → post (x_classCount, x_methodCount, x_ruleCount, x_isBuilt, x_faultPlace, x_namedClasses, x_madeClasses, x_namedMethods, x_liveMethods, x_depth, x_stepCount, x_outCount, x_traceCount, x_isInterfaceClass, x_chainOf, x_interfacesOf, x_ancestorsOf, x_homeOf, F, x_nameOf, L, x_opOf, x_classOf, x_numberOf, x_sourceMethod, x_sourceLine, x_callLine, x_ruleKind, x_ruleClasses, x_ruleNames, x_newNumber, x_familyOf, x_sightOf, x_frameRow, x_frameLine, x_frameHeld, x_outInts, x_traceMethod, x_traceLine)) : wpX_dropUnmarkedMethods post (x_classCount, x_methodCount, x_ruleCount, x_isBuilt, x_faultPlace, x_namedClasses, x_madeClasses, x_namedMethods, x_liveMethods, x_depth, x_stepCount, x_outCount, x_traceCount, x_isInterfaceClass, x_chainOf, x_interfacesOf, x_ancestorsOf, x_homeOf, x_formOf, x_nameOf, x_lengthOf, x_opOf, x_classOf, x_numberOf, x_sourceMethod, x_sourceLine, x_callLine, x_ruleKind, x_ruleClasses, x_ruleNames, x_newNumber, x_familyOf, x_sightOf, x_frameRow, x_frameLine, x_frameHeld, x_outInts, x_traceMethod, x_traceLine) := by
  have lo : ∀ q i f F L, i + q = M → q < f → (∀ j, j < 30 → F j = x_formOf j) → (∀ j, j < 30 → L j = x_lengthOf j) →
      (∀ m, m < i → F (30 + m) = if bt x_liveMethods m = true then 2 else if bt x_namedMethods m = true then 1 else 0) →
      (∀ m, m < i → L (30 + m) = if bt x_liveMethods m = true then x_lengthOf (30 + m) else 0) → (∀ m, i ≤ m → m < M → L (30 + m) = x_lengthOf (30 + m)) →
      wX_dropUnmarkedMethods_2 post x_classCount x_methodCount x_ruleCount x_isBuilt x_faultPlace x_namedClasses x_madeClasses x_namedMethods x_liveMethods x_depth x_stepCount x_outCount x_traceCount f (nI i) x_isInterfaceClass x_chainOf x_interfacesOf x_ancestorsOf x_homeOf F x_nameOf L x_opOf x_classOf x_numberOf x_sourceMethod x_sourceLine x_callLine x_ruleKind x_ruleClasses x_ruleNames x_newNumber x_familyOf x_sightOf x_frameRow x_frameLine x_frameHeld x_outInts x_traceMethod x_traceLine := by
    intro q
    induction q with
    | zero =>
      intro i f F L e hf a1 a2 a3 a4 a5
      obtain ⟨f, rfl⟩ : ∃ q, f = q + 1 := ⟨f - 1, by omega⟩
      have e : i = M := by omega
      subst e
      rw [wX_dropUnmarkedMethods_2]
      exact br_t (by rw [hM]; exact nI_le (by omega) (by omega)) (K F L a1 a2 a3 a4)
    | succ q ih =>
      intro i f F L e hf a1 a2 a3 a4 a5
      obtain ⟨f, rfl⟩ : ∃ q, f = q + 1 := ⟨f - 1, by omega⟩
      have i60 : vp_in (nI (30 + i)) 60 := vp_in_nI (by omega) (by decide)
      have dr : ∀ v : Int32, ¬ bt x_liveMethods i = true → v = (if bt x_namedMethods i = true then 1 else 0) →
          wX_dropUnmarkedMethods_57 post (wX_dropUnmarkedMethods_2 post x_classCount x_methodCount x_ruleCount x_isBuilt x_faultPlace x_namedClasses x_madeClasses x_namedMethods x_liveMethods x_depth x_stepCount x_outCount x_traceCount f) (nI i) (nI (30 + i)) v (nI (30 + i)) x_classCount x_methodCount x_ruleCount x_isBuilt x_faultPlace x_namedClasses x_madeClasses x_namedMethods x_liveMethods x_depth x_stepCount x_outCount x_traceCount x_isInterfaceClass x_chainOf x_interfacesOf x_ancestorsOf x_homeOf F x_nameOf L x_opOf x_classOf x_numberOf x_sourceMethod x_sourceLine x_callLine x_ruleKind x_ruleClasses x_ruleNames x_newNumber x_familyOf x_sightOf x_frameRow x_frameLine x_frameHeld x_outInts x_traceMethod x_traceLine := fun v nl ev => by
        unfold wX_dropUnmarkedMethods_57
        rw [nI_c (show 30 + i < 10000 by omega)]
        refine ⟨i60, nm_e ⟨i60, nm_e (nm_r (nI_1 i) (ih (i + 1) f _ _ (by omega) (by omega) (fun j hj => ?_) (fun j hj => ?_) (fun m hm => ?_) (fun m hm => ?_) (fun m h1 h2 => ?_)))⟩⟩
        · rw [pk_un (by omega)]; exact a1 j hj
        · rw [pk_un (by omega)]; exact a2 j hj
        · rcases Nat.lt_or_ge m i with w | w
          · rw [pk_un (by omega)]; exact a3 m w
          · have : m = i := by omega
            subst this; rw [pk_us, if_neg nl]; exact ev
        · rcases Nat.lt_or_ge m i with w | w
          · rw [pk_un (by omega)]; exact a4 m w
          · have : m = i := by omega
            subst this; rw [pk_us, if_neg nl]
        · rw [pk_un (by omega)]; exact a5 m (by omega) h2
      rw [wX_dropUnmarkedMethods_2]
      refine br_f (by rw [hM]; exact nI_ge (by omega) (by omega)) (nm_r (nI_b30 i) (xh_b (by omega) (fun y => ⟨i60, ?_⟩) (fun y => xh_b (by omega) (fun x => dr 1 y (if_pos x).symm) (fun x => dr 0 y (if_neg x).symm))))
      rw [nI_c (show 30 + i < 10000 by omega)]
      refine nm_e (nm_r (nI_1 i) (ih (i + 1) f _ L (by omega) (by omega) (fun j hj => ?_) a2 (fun m hm => ?_) (fun m hm => ?_) (fun m h1 h2 => a5 m (by omega) h2)))
      · rw [pk_un (by omega)]; exact a1 j hj
      · rcases Nat.lt_or_ge m i with w | w
        · rw [pk_un (by omega)]; exact a3 m w
        · have : m = i := by omega
          subst this; rw [pk_us, if_pos y]
      · rcases Nat.lt_or_ge m i with w | w
        · exact a4 m w
        · have : m = i := by omega
          subst this; rw [if_pos y]; exact a5 m (by omega) (by omega)
  unfold wpX_dropUnmarkedMethods
  exact ⟨M + 1, lo M 0 (M + 1) _ _ (by omega) (by omega) (fun _ _ => rfl) (fun _ _ => rfl) (fun m hm => by omega) (fun m hm => by omega) (fun _ _ _ => rfl)⟩
theorem xL_v {post : Int32 → Prop} {s : Int32} {n : Nat} (hn : n < 10) (h1 : ¬ bt s n = true) (h2 : ∀ j, j < n → bt s j = true) (hp : post (nI n)) : wpX_leastOutside post s := by
  have lo : ∀ q i f, i + q = n → q < f → wX_leastOutside_4 post s f (nI i) (nI i) := by
    intro q
    induction q with
    | zero =>
      intro i f e hf
      obtain ⟨f, rfl⟩ : ∃ q, f = q + 1 := ⟨f - 1, by omega⟩
      have e : i = n := by omega
      subst e
      rw [wX_leastOutside_4]
      exact br_f (nI_ge (b := 10) (by omega) (by decide)) (xh_b (by omega) (fun y => absurd y h1) (fun _ => hp))
    | succ q ih =>
      intro i f e hf
      obtain ⟨f, rfl⟩ : ∃ q, f = q + 1 := ⟨f - 1, by omega⟩
      rw [wX_leastOutside_4]
      exact br_f (nI_ge (b := 10) (by omega) (by decide)) (xh_b (by omega) (fun _ => nm_r (nI_1 i) (nm_r (nI_1 i) (ih (i + 1) f (by omega) (by omega)))) (fun y => absurd (h2 i (by omega)) y))
  unfold wpX_leastOutside
  exact ⟨n + 1, lo n 0 (n + 1) (by omega) (by omega)⟩
def ke_p (R : Nat) (rc : Nat → Int32) (N kept : Int32) : Prop := ∀ i, bt kept i = true ↔ bt N i = true ∧ ∃ r, r < R ∧ bt (rc r) i = true
theorem ke_u {rc : Nat → Int32} {N k k' : Int32} (h : ke_p R rc N k) (g : ke_p R rc N k') : k = k' := b_ext (fun i _ => Bool.eq_iff_iff.mpr ((h i).trans (g i).symm))
theorem xN_l (h10 : C ≤ 10) (hC : x_classCount = nI C) {kept : Int32} (hk : ∀ i, bt kept i = true → i < 10) (kn : ∀ i, bt kept i = true → bt x_namedClasses i = true) {post : SX → Prop}
    (K : ∀ nu, (∀ c, c < C → nu c = nu_v kept x_namedClasses c) → post (x_classCount, x_methodCount, x_ruleCount, x_isBuilt, x_faultPlace, x_namedClasses, x_madeClasses, x_namedMethods, x_liveMethods, x_depth, x_stepCount, x_outCount, x_traceCount, x_isInterfaceClass, x_chainOf, x_interfacesOf, x_ancestorsOf, x_homeOf, x_formOf, x_nameOf, x_lengthOf, x_opOf, x_classOf, x_numberOf, x_sourceMethod, x_sourceLine, x_callLine, x_ruleKind, x_ruleClasses, x_ruleNames, nu, x_familyOf, x_sightOf, x_frameRow, x_frameLine, x_frameHeld, x_outInts, x_traceMethod, x_traceLine)) :
    ∀ q i f nu, i + q = C → q < f → (∀ c, c < i → nu c = nu_v kept x_namedClasses c) → wX_numberClasses_36 post kept x_classCount x_methodCount x_ruleCount x_isBuilt x_faultPlace x_namedClasses x_madeClasses x_namedMethods x_liveMethods x_depth x_stepCount x_outCount x_traceCount f (nu_u kept x_namedClasses i) (nI i) x_isInterfaceClass x_chainOf x_interfacesOf x_ancestorsOf x_homeOf x_formOf x_nameOf x_lengthOf x_opOf x_classOf x_numberOf x_sourceMethod x_sourceLine x_callLine x_ruleKind x_ruleClasses x_ruleNames nu x_familyOf x_sightOf x_frameRow x_frameLine x_frameHeld x_outInts x_traceMethod x_traceLine := by
  intro q
  induction q with
  | zero =>
    intro i f nu e hf z
    obtain ⟨f, rfl⟩ : ∃ q, f = q + 1 := ⟨f - 1, by omega⟩
    have e : i = C := by omega
    subst e
    rw [wX_numberClasses_36]
    exact br_t (by rw [hC]; exact nI_le (by omega) (by omega)) (K nu z)
  | succ q ih =>
    intro i f nu e hf z
    obtain ⟨f, rfl⟩ : ∃ q, f = q + 1 := ⟨f - 1, by omega⟩
    have i10 : vp_in (nI i) 10 := vp_in_nI (by omega) (by decide)
    have nx : ∀ nu', (∀ c, c < i → nu' c = nu c) → nu' i = nu_v kept x_namedClasses i → wX_numberClasses_36 post kept x_classCount x_methodCount x_ruleCount x_isBuilt x_faultPlace x_namedClasses x_madeClasses x_namedMethods x_liveMethods x_depth x_stepCount x_outCount x_traceCount f (nu_u kept x_namedClasses (i + 1)) (nI (i + 1)) x_isInterfaceClass x_chainOf x_interfacesOf x_ancestorsOf x_homeOf x_formOf x_nameOf x_lengthOf x_opOf x_classOf x_numberOf x_sourceMethod x_sourceLine x_callLine x_ruleKind x_ruleClasses x_ruleNames nu' x_familyOf x_sightOf x_frameRow x_frameLine x_frameHeld x_outInts x_traceMethod x_traceLine := fun nu' h1 h2 =>
      ih (i + 1) f nu' (by omega) (by omega) (fun c hc => by
        rcases Nat.lt_or_ge c i with v | v
        · rw [h1 c v]; exact z c v
        · have : c = i := by omega
          subst this; exact h2)
    have uk : ¬ (bt x_namedClasses i = true ∧ ¬ bt kept i = true) → nu_u kept x_namedClasses (i + 1) = nu_u kept x_namedClasses i := fun h => if_neg h
    rw [wX_numberClasses_36]
    refine br_f (by rw [hC]; exact nI_ge (by omega) (by omega)) ⟨i10, nm_e ?_⟩
    rw [nI_c (show i < 10000 by omega)]
    refine xh_b (by omega) (fun y => ⟨i10, nm_e (nm_r (nI_1 i) ?_)⟩) (fun y => xh_b (by omega) (fun x => ?_) (fun x => nm_r (nI_1 i) ?_))
    · have := nx (upd (upd nu i (-1)) i (nI i)) (fun c hc => by rw [pk_un (by omega), pk_un (by omega)]) (by rw [pk_us]; exact (if_pos y).symm)
      rw [uk (fun q => q.2 y)] at this
      exact this
    · obtain ⟨l1, l2, l3⟩ := nu_10 (c := i) (by omega) y (nu_all hk i (by omega))
      refine xL_v l1 l2 l3 ⟨i10, nm_e ⟨i10, nm_e (nm_r (nI_1 i) ?_)⟩⟩
      rw [pk_us]
      have := nx (upd (upd nu i (-1)) i (nI (lo_n (nu_u kept x_namedClasses i)))) (fun c hc => by rw [pk_un (by omega), pk_un (by omega)]) (by
        rw [pk_us]; unfold nu_v; rw [if_neg y, if_pos x])
      rw [show nu_u kept x_namedClasses (i + 1) = nu_u kept x_namedClasses i ||| ((1 : Int32) <<< (nI (lo_n (nu_u kept x_namedClasses i)) &&& 31)) from if_pos ⟨x, y⟩] at this
      exact this
    · have := nx (upd nu i (-1)) (fun c hc => pk_un (by omega)) (by
        rw [pk_us]; unfold nu_v; rw [if_neg y, if_neg x])
      rw [uk (fun q => x q.1)] at this
      exact this
theorem xN_v (h10 : C ≤ 10) (h4 : R ≤ 4) (hC : x_classCount = nI C) (hR : x_ruleCount = nI R) (hn : ∀ i, bt x_namedClasses i = true → i < C) {post : SX → Prop}
    (K : ∀ kept nu, ke_p R x_ruleClasses x_namedClasses kept → (∀ c, c < C → nu c = nu_v kept x_namedClasses c) → post (x_classCount, x_methodCount, x_ruleCount, x_isBuilt, x_faultPlace, x_namedClasses, x_madeClasses, x_namedMethods, x_liveMethods, x_depth, x_stepCount, x_outCount, x_traceCount, x_isInterfaceClass, x_chainOf, x_interfacesOf, x_ancestorsOf, x_homeOf, x_formOf, x_nameOf, x_lengthOf, x_opOf, x_classOf, x_numberOf, x_sourceMethod, x_sourceLine, x_callLine, x_ruleKind, x_ruleClasses, x_ruleNames, nu, x_familyOf, x_sightOf, x_frameRow, x_frameLine, x_frameHeld, x_outInts, x_traceMethod, x_traceLine)) : wpX_numberClasses post (x_classCount, x_methodCount, x_ruleCount, x_isBuilt, x_faultPlace, x_namedClasses, x_madeClasses, x_namedMethods, x_liveMethods, x_depth, x_stepCount, x_outCount, x_traceCount, x_isInterfaceClass, x_chainOf, x_interfacesOf, x_ancestorsOf, x_homeOf, x_formOf, x_nameOf, x_lengthOf, x_opOf, x_classOf, x_numberOf, x_sourceMethod, x_sourceLine, x_callLine, x_ruleKind, x_ruleClasses, x_ruleNames, x_newNumber, x_familyOf, x_sightOf, x_frameRow, x_frameLine, x_frameHeld, x_outInts, x_traceMethod, x_traceLine) := by
  have lo : ∀ q i f v, i + q = R → q < f → ke_p i x_ruleClasses x_namedClasses v → wX_numberClasses_4 post x_classCount x_methodCount x_ruleCount x_isBuilt x_faultPlace x_namedClasses x_madeClasses x_namedMethods x_liveMethods x_depth x_stepCount x_outCount x_traceCount x_isInterfaceClass x_chainOf x_interfacesOf x_ancestorsOf x_homeOf x_formOf x_nameOf x_lengthOf x_opOf x_classOf x_numberOf x_sourceMethod x_sourceLine x_callLine x_ruleKind x_ruleClasses x_ruleNames x_newNumber x_familyOf x_sightOf x_frameRow x_frameLine x_frameHeld x_outInts x_traceMethod x_traceLine f v (nI i) := by
    intro q
    induction q with
    | zero =>
      intro i f v e hf z
      obtain ⟨f, rfl⟩ : ∃ q, f = q + 1 := ⟨f - 1, by omega⟩
      have e : i = R := by omega
      subst e
      rw [wX_numberClasses_4]
      refine br_t (by rw [hR]; exact nI_le (by omega) (by omega)) ⟨C + 1, ?_⟩
      exact xN_l h10 hC (fun j y => by have := hn j ((z j).mp y).1; omega) (fun j y => ((z j).mp y).1) (fun nu h => K v nu z h) C 0 (C + 1) _ (by omega) (by omega) (fun c hc => by omega)
    | succ q ih =>
      intro i f v e hf z
      obtain ⟨f, rfl⟩ : ∃ q, f = q + 1 := ⟨f - 1, by omega⟩
      rw [wX_numberClasses_4]
      refine br_f (by rw [hR]; exact nI_ge (by omega) (by omega)) ⟨vp_in_nI (by omega) (by decide), ?_⟩
      rw [nI_c (by omega)]
      refine nm_e (nm_r (nI_1 i) (ih (i + 1) f _ (by omega) (by omega) (fun j => ?_)))
      rw [b_or, b_and, Bool.or_eq_true, Bool.and_eq_true, z j]
      constructor
      · rintro (⟨a, r, hr, b⟩ | ⟨a, b⟩)
        · exact ⟨a, r, by omega, b⟩
        · exact ⟨b, i, by omega, a⟩
      · rintro ⟨a, r, hr, b⟩
        rcases Nat.lt_or_ge r i with w | w
        · exact Or.inl ⟨a, r, w, b⟩
        · have : r = i := by omega
          subst this; exact Or.inr ⟨b, a⟩
  unfold wpX_numberClasses
  exact ⟨R + 1, lo R 0 (R + 1) 0 (by omega) (by omega) (fun j => by
    rw [b_0]
    exact ⟨fun z => absurd z (by decide), fun ⟨_, r, hr, _⟩ => by omega⟩)⟩
end
