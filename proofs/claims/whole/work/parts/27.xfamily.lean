/-! ===== families: X ===== -/
section
variable {x_classCount x_methodCount x_ruleCount x_isBuilt x_faultPlace x_namedClasses x_madeClasses x_namedMethods x_liveMethods x_depth x_stepCount x_outCount x_traceCount : Int32} {x_isInterfaceClass x_chainOf x_interfacesOf x_ancestorsOf x_homeOf x_formOf x_nameOf x_lengthOf x_opOf x_classOf x_numberOf x_sourceMethod x_sourceLine x_callLine x_ruleKind x_ruleClasses x_ruleNames x_newNumber x_familyOf x_sightOf x_frameRow x_frameLine x_frameHeld x_outInts x_traceMethod x_traceLine : Nat → Int32} {C M R : Nat} {y_name : Nat → Int32}
theorem xK_b (h10 : C ≤ 10) (g : mh_ok C M x_homeOf) (hC : x_classCount = nI C) (hnm : ∀ m, m < M → x_nameOf m = y_name m) {A B : Prop} {p q : Nat} (hp : p < M) (hq : q < M) (t : kn_p C M x_ancestorsOf x_homeOf y_name x_namedClasses x_namedMethods p q → B) (f : ¬ kn_p C M x_ancestorsOf x_homeOf y_name x_namedClasses x_namedMethods p q → A) :
    wpX_areKin (fun z => (z = 0 → A) ∧ (¬ z = 0 → B)) (x_classCount, x_methodCount, x_ruleCount, x_isBuilt, x_faultPlace, x_namedClasses, x_madeClasses, x_namedMethods, x_liveMethods, x_depth, x_stepCount, x_outCount, x_traceCount, x_isInterfaceClass, x_chainOf, x_interfacesOf, x_ancestorsOf, x_homeOf, x_formOf, x_nameOf, x_lengthOf, x_opOf, x_classOf, x_numberOf, x_sourceMethod, x_sourceLine, x_callLine, x_ruleKind, x_ruleClasses, x_ruleNames, x_newNumber, x_familyOf, x_sightOf, x_frameRow, x_frameLine, x_frameHeld, x_outInts, x_traceMethod, x_traceLine) (nI p) (nI q) := by
  have h30 := g.1
  obtain ⟨op, lp⟩ := mh_h g h10 hp
  obtain ⟨oq, lq⟩ := mh_h g h10 hq
  unfold wpX_areKin
  dsimp only
  rw [nI_c (show p < 10000 by omega), nI_c (show q < 10000 by omega), hnm p hp, hnm q hq]
  refine ⟨vp_in_nI (by omega) (by decide), vp_in_nI (by omega) (by decide), br_c (fun en => xh_b (by omega) (fun bp => xh_b (by omega) (fun bq => ⟨C + 1, ?_⟩) (fun z => br_0 (f (fun k => z k.2.2.2.1)))) (fun z => br_0 (f (fun k => z k.2.2.1)))) (fun z => br_0 (f (fun k => z k.2.2.2.2.1)))⟩
  have lo : ∀ k i g v, i + k = C → k < g → (v = 0 ↔ ¬ ∃ d, d < i ∧ bt x_namedClasses d = true ∧ bt (x_ancestorsOf d) (hq_t (x_homeOf p)) = true ∧ bt (x_ancestorsOf d) (hq_t (x_homeOf q)) = true) →
      wX_areKin_44 (fun z => (z = 0 → A) ∧ (¬ z = 0 → B)) (nI p) (nI q) x_classCount x_methodCount x_ruleCount x_isBuilt x_faultPlace x_namedClasses x_madeClasses x_namedMethods x_liveMethods x_depth x_stepCount x_outCount x_traceCount x_isInterfaceClass x_chainOf x_interfacesOf x_ancestorsOf x_homeOf x_formOf x_nameOf x_lengthOf x_opOf x_classOf x_numberOf x_sourceMethod x_sourceLine x_callLine x_ruleKind x_ruleClasses x_ruleNames x_newNumber x_familyOf x_sightOf x_frameRow x_frameLine x_frameHeld x_outInts x_traceMethod x_traceLine g v (nI i) := by
    intro k
    induction k with
    | zero =>
      intro i g v e hg z
      obtain ⟨g, rfl⟩ : ∃ q, g = q + 1 := ⟨g - 1, by omega⟩
      have e : i = C := by omega
      subst e
      rw [wX_areKin_44]
      refine br_t (by rw [hC]; exact nI_le (by omega) (by omega)) (br_c (fun y => br_0 (f (fun k => z.mp y k.2.2.2.2.2))) (fun y => br_1 (t ?_)))
      exact ⟨hp, hq, bp, bq, en, Classical.byContradiction (fun w => y (z.mpr w))⟩
    | succ k ih =>
      intro i g v e hg z
      obtain ⟨g, rfl⟩ : ∃ q, g = q + 1 := ⟨g - 1, by omega⟩
      have nx : ¬ (bt x_namedClasses i = true ∧ bt (x_ancestorsOf i) (hq_t (x_homeOf p)) = true ∧ bt (x_ancestorsOf i) (hq_t (x_homeOf q)) = true) → wX_areKin_44 (fun z => (z = 0 → A) ∧ (¬ z = 0 → B)) (nI p) (nI q) x_classCount x_methodCount x_ruleCount x_isBuilt x_faultPlace x_namedClasses x_madeClasses x_namedMethods x_liveMethods x_depth x_stepCount x_outCount x_traceCount x_isInterfaceClass x_chainOf x_interfacesOf x_ancestorsOf x_homeOf x_formOf x_nameOf x_lengthOf x_opOf x_classOf x_numberOf x_sourceMethod x_sourceLine x_callLine x_ruleKind x_ruleClasses x_ruleNames x_newNumber x_familyOf x_sightOf x_frameRow x_frameLine x_frameHeld x_outInts x_traceMethod x_traceLine g v (nI (i + 1)) := fun y =>
        ih (i + 1) g v (by omega) (by omega) (z.trans ⟨fun n ⟨d, hd, w⟩ => by
          rcases Nat.lt_or_ge d i with u | u
          · exact n ⟨d, u, w⟩
          · have : d = i := by omega
            subst this; exact y w, fun n ⟨d, hd, w⟩ => n ⟨d, by omega, w⟩⟩)
      rw [wX_areKin_44]
      refine br_f (by rw [hC]; exact nI_ge (by omega) (by omega)) (xh_b (by omega) (fun y => ⟨vp_in_nI (by omega) (by decide), ?_⟩) (fun y => nm_r (nI_1 i) (nx (fun k => y k.1))))
      rw [nI_c (show p < 10000 by omega), op]
      refine xd_b (by omega) (by omega) (fun x => ⟨vp_in_nI (by omega) (by decide), ?_⟩) (fun x => nm_r (nI_1 i) (nx (fun k => x k.2.1)))
      rw [nI_c (show q < 10000 by omega), oq]
      refine xd_b (by omega) (by omega) (fun w => nm_e (nm_r (nI_1 i) (ih (i + 1) g _ (by omega) (by omega) ⟨fun z0 => ?_, fun n => absurd ⟨i, by omega, y, x, w⟩ n⟩))) (fun w => nm_r (nI_1 i) (nx (fun k => w k.2.2)))
      have := (bq_ze.mp z0) i
      exact absurd ((bq_o1 v (by omega) i).mpr (Or.inr rfl)) this
  exact lo C 0 (C + 1) 0 (by omega) (by omega) ⟨fun _ ⟨d, hd, _⟩ => by omega, fun _ => rfl⟩
/-- what a family array holds all along -/
def fy_p (kin : Nat → Nat → Prop) (M : Nat) (fa : Nat → Int32) : Prop := ∀ m, m < M → ∃ k, fa m = nI k ∧ k ≤ m ∧ fa_cp kin m k
theorem fy_v {kin : Nat → Nat → Prop} {fa : Nat → Int32} (h30 : M ≤ 30) (h : fy_p kin M fa) {m : Nat} (hm : m < M) : fa m = nI (hq_t (fa m)) ∧ hq_t (fa m) ≤ m ∧ fa_cp kin m (hq_t (fa m)) := by
  obtain ⟨k, e, l, c⟩ := h m hm
  rw [e, hq_e (by omega)]
  exact ⟨rfl, l, c⟩
theorem xK_m (h10 : C ≤ 10) (g : mh_ok C M x_homeOf) (hC : x_classCount = nI C) (hM : x_methodCount = nI M) (hnm : ∀ m, m < M → x_nameOf m = y_name m) (hfa : fy_p (kn_p C M x_ancestorsOf x_homeOf y_name x_namedClasses x_namedMethods) M x_familyOf) {post : Int32 → Prop} {p : Nat} (hp : p < M)
    (K : ∀ k, k ≤ hq_t (x_familyOf p) → fa_cp (kn_p C M x_ancestorsOf x_homeOf y_name x_namedClasses x_namedMethods) p k → (∀ q, kn_p C M x_ancestorsOf x_homeOf y_name x_namedClasses x_namedMethods p q → k ≤ hq_t (x_familyOf q)) → post (nI k)) : wpX_leastKinFamily post (x_classCount, x_methodCount, x_ruleCount, x_isBuilt, x_faultPlace, x_namedClasses, x_madeClasses, x_namedMethods, x_liveMethods, x_depth, x_stepCount, x_outCount, x_traceCount, x_isInterfaceClass, x_chainOf, x_interfacesOf, x_ancestorsOf, x_homeOf, x_formOf, x_nameOf, x_lengthOf, x_opOf, x_classOf, x_numberOf, x_sourceMethod, x_sourceLine, x_callLine, x_ruleKind, x_ruleClasses, x_ruleNames, x_newNumber, x_familyOf, x_sightOf, x_frameRow, x_frameLine, x_frameHeld, x_outInts, x_traceMethod, x_traceLine) (nI p) := by
  have h30 := g.1
  obtain ⟨f1, f2, f3⟩ := fy_v h30 hfa hp
  have lo : ∀ n i f k, i + n = M → n < f → k ≤ hq_t (x_familyOf p) → fa_cp (kn_p C M x_ancestorsOf x_homeOf y_name x_namedClasses x_namedMethods) p k → (∀ q, q < i → kn_p C M x_ancestorsOf x_homeOf y_name x_namedClasses x_namedMethods p q → k ≤ hq_t (x_familyOf q)) → wX_leastKinFamily_9 post (nI p) x_classCount x_methodCount x_ruleCount x_isBuilt x_faultPlace x_namedClasses x_madeClasses x_namedMethods x_liveMethods x_depth x_stepCount x_outCount x_traceCount x_isInterfaceClass x_chainOf x_interfacesOf x_ancestorsOf x_homeOf x_formOf x_nameOf x_lengthOf x_opOf x_classOf x_numberOf x_sourceMethod x_sourceLine x_callLine x_ruleKind x_ruleClasses x_ruleNames x_newNumber x_familyOf x_sightOf x_frameRow x_frameLine x_frameHeld x_outInts x_traceMethod x_traceLine f (nI k) (nI i) := by
    intro n
    induction n with
    | zero =>
      intro i f k e hf a1 a2 a3
      obtain ⟨f, rfl⟩ : ∃ q, f = q + 1 := ⟨f - 1, by omega⟩
      have e : i = M := by omega
      subst e
      rw [wX_leastKinFamily_9]
      exact br_t (by rw [hM]; exact nI_le (by omega) (by omega)) (K k a1 a2 (fun q kq => a3 q kq.2.1 kq))
    | succ n ih =>
      intro i f k e hf a1 a2 a3
      obtain ⟨f, rfl⟩ : ∃ q, f = q + 1 := ⟨f - 1, by omega⟩
      obtain ⟨i1, i2, i3⟩ := fy_v h30 hfa (m := i) (by omega)
      have nx : (kn_p C M x_ancestorsOf x_homeOf y_name x_namedClasses x_namedMethods p i → k ≤ hq_t (x_familyOf i)) → wX_leastKinFamily_9 post (nI p) x_classCount x_methodCount x_ruleCount x_isBuilt x_faultPlace x_namedClasses x_madeClasses x_namedMethods x_liveMethods x_depth x_stepCount x_outCount x_traceCount x_isInterfaceClass x_chainOf x_interfacesOf x_ancestorsOf x_homeOf x_formOf x_nameOf x_lengthOf x_opOf x_classOf x_numberOf x_sourceMethod x_sourceLine x_callLine x_ruleKind x_ruleClasses x_ruleNames x_newNumber x_familyOf x_sightOf x_frameRow x_frameLine x_frameHeld x_outInts x_traceMethod x_traceLine f (nI k) (nI (i + 1)) := fun y => ih (i + 1) f k (by omega) (by omega) a1 a2 (fun q hq kq => by
        rcases Nat.lt_or_ge q i with w | w
        · exact a3 q w kq
        · have : q = i := by omega
          subst this; exact y kq)
      rw [wX_leastKinFamily_9]
      refine br_f (by rw [hM]; exact nI_ge (by omega) (by omega)) ⟨vp_in_nI (by omega) (by decide), ?_⟩
      rw [nI_c (show i < 10000 by omega)]
      refine pk_le k (hq_t (x_familyOf i)) (fun y => nm_r (nI_1 i) (nx (fun _ => y))) (fun y => xK_b h10 g hC hnm hp (by omega) (fun kn => ⟨vp_in_nI (by omega) (by decide), nm_r i1 (nm_r (nI_1 i) ?_)⟩) (fun kn => nm_r (nI_1 i) (nx (fun q => absurd q kn)))) rfl i1
      refine ih (i + 1) f _ (by omega) (by omega) (by omega) (fa_ct (fa_ck kn) i3) (fun q hq kq => ?_)
      rcases Nat.lt_or_ge q i with w | w
      · have := a3 q w kq; omega
      · have : q = i := by omega
        subst this; exact Nat.le_refl _
  unfold wpX_leastKinFamily
  dsimp only
  rw [nI_c (by omega)]
  exact ⟨vp_in_nI (by omega) (by decide), nm_r f1 ⟨M + 1, lo M 0 (M + 1) _ (by omega) (by omega) (Nat.le_refl _) f3 (fun q hq => by omega)⟩⟩
end
