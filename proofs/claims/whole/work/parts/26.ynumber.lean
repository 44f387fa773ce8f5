/-! ===== Y: numbering ===== -/
section
variable {y_classes y_methods y_rules y_place y_named y_made y_namedMethods y_live y_built y_depth y_steps y_outs y_ending : Int32} {y_isInterface y_isAbstract y_parent y_ancestors y_own y_many y_home y_name y_length y_op y_first y_second y_ruleKind y_ruleClasses y_ruleNames y_inlined y_number y_newName y_family y_vMethod y_vLine y_vHeld y_put : Nat → Int32} {C M R : Nat}
theorem yN_l (h10 : C ≤ 10) (hC : y_classes = nI C) {kept : Int32} (hk : ∀ i, bt kept i = true → i < 10) (kn : ∀ i, bt kept i = true → bt y_named i = true) {post : SY → Prop}
    (K : ∀ nu, (∀ c, c < C → nu c = nu_v kept y_named c) → post (y_classes, y_methods, y_rules, y_place, y_named, y_made, y_namedMethods, y_live, y_built, y_depth, y_steps, y_outs, y_ending, y_isInterface, y_isAbstract, y_parent, y_ancestors, y_own, y_many, y_home, y_name, y_length, y_op, y_first, y_second, y_ruleKind, y_ruleClasses, y_ruleNames, y_inlined, nu, y_newName, y_family, y_vMethod, y_vLine, y_vHeld, y_put)) :
    ∀ q i f nu, i + q = C → q < f → (∀ c, c < i → nu c = nu_v kept y_named c) → wY_renumber_15 post kept y_classes y_methods y_rules y_place y_named y_made y_namedMethods y_live y_built y_depth y_steps y_outs y_ending f (nu_u kept y_named i) (nI i) y_isInterface y_isAbstract y_parent y_ancestors y_own y_many y_home y_name y_length y_op y_first y_second y_ruleKind y_ruleClasses y_ruleNames y_inlined nu y_newName y_family y_vMethod y_vLine y_vHeld y_put := by
  intro q
  induction q with
  | zero =>
    intro i f nu e hf z
    obtain ⟨f, rfl⟩ : ∃ q, f = q + 1 := ⟨f - 1, by omega⟩
    have e : i = C := by omega
    subst e
    rw [wY_renumber_15]
    exact br_t (by rw [hC]; exact nI_le (by omega) (by omega)) (K nu z)
  | succ q ih =>
    intro i f nu e hf z
    obtain ⟨f, rfl⟩ : ∃ q, f = q + 1 := ⟨f - 1, by omega⟩
    have i10 : vp_in (nI i) 10 := vp_in_nI (by omega) (by decide)
    have nx : ∀ nu', (∀ c, c < i → nu' c = nu c) → nu' i = nu_v kept y_named i → wY_renumber_15 post kept y_classes y_methods y_rules y_place y_named y_made y_namedMethods y_live y_built y_depth y_steps y_outs y_ending f (nu_u kept y_named (i + 1)) (nI (i + 1)) y_isInterface y_isAbstract y_parent y_ancestors y_own y_many y_home y_name y_length y_op y_first y_second y_ruleKind y_ruleClasses y_ruleNames y_inlined nu' y_newName y_family y_vMethod y_vLine y_vHeld y_put := fun nu' h1 h2 =>
      ih (i + 1) f nu' (by omega) (by omega) (fun c hc => by
        rcases Nat.lt_or_ge c i with v | v
        · rw [h1 c v]; exact z c v
        · have : c = i := by omega
          subst this; exact h2)
    have uk : ¬ (bt y_named i = true ∧ ¬ bt kept i = true) → nu_u kept y_named (i + 1) = nu_u kept y_named i := fun h => if_neg h
    rw [wY_renumber_15]
    refine br_f (by rw [hC]; exact nI_ge (by omega) (by omega)) (yb_b (by omega) (fun y => ?_) (fun y => ?_))
    · unfold wY_renumber_44
      rw [nI_c (show i < 10000 by omega)]
      refine ⟨i10, nm_e (yb_b (by omega) (fun _ => yb_b (by omega) (fun x => nm_r (nI_1 i) ?_) (fun x => ?_)) (fun w => absurd y w))⟩
      · have := nx (upd nu i (nI i)) (fun c hc => pk_un (by omega)) (by rw [pk_us]; exact (if_pos x).symm)
        rw [uk (fun q => q.2 x)] at this
        exact this
      · obtain ⟨l1, l2, l3⟩ := nu_10 (named := y_named) (c := i) (by omega) x (nu_all hk i (by omega))
        have lo : ∀ q k g, k + q = lo_n (nu_u kept y_named i) → q < g → wY_renumber_70 post (wY_renumber_15 post kept y_classes y_methods y_rules y_place y_named y_made y_namedMethods y_live y_built y_depth y_steps y_outs y_ending f) kept (nu_u kept y_named i) (nI i) y_classes y_methods y_rules y_place y_named y_made y_namedMethods y_live y_built y_depth y_steps y_outs y_ending y_isInterface y_isAbstract y_parent y_ancestors y_own y_many y_home y_name y_length y_op y_first y_second y_ruleKind y_ruleClasses y_ruleNames y_inlined (upd nu i (nI i)) y_newName y_family y_vMethod y_vLine y_vHeld y_put g (nI k) := by
          intro q
          induction q with
          | zero =>
            intro k g e hg
            obtain ⟨g, rfl⟩ : ∃ q, g = q + 1 := ⟨g - 1, by omega⟩
            have e : k = lo_n (nu_u kept y_named i) := by omega
            rw [wY_renumber_70]
            refine yb_b (by omega) (fun w => absurd (by rw [← e]; exact w) l2) (fun _ => ⟨i10, nm_e (nm_e (nm_r (nI_1 i) ?_))⟩)
            rw [nI_c (show i < 10000 by omega), e]
            have := nx (upd (upd nu i (nI i)) i (nI (lo_n (nu_u kept y_named i)))) (fun c hc => by rw [pk_un (by omega), pk_un (by omega)]) (by
              rw [pk_us]; unfold nu_v; rw [if_neg x, if_pos y])
            rw [show nu_u kept y_named (i + 1) = nu_u kept y_named i ||| ((1 : Int32) <<< (nI (lo_n (nu_u kept y_named i)) &&& 31)) from if_pos ⟨y, x⟩] at this
            exact this
          | succ q ih2 =>
            intro k g e hg
            obtain ⟨g, rfl⟩ : ∃ q, g = q + 1 := ⟨g - 1, by omega⟩
            rw [wY_renumber_70]
            exact yb_b (by omega) (fun _ => nm_r (nI_1 k) (ih2 (k + 1) g (by omega) (by omega))) (fun w => absurd (l3 k (by omega)) w)
        exact ⟨_, lo (lo_n (nu_u kept y_named i)) 0 (lo_n (nu_u kept y_named i) + 1) (by omega) (by omega)⟩
    · unfold wY_renumber_44
      rw [nI_c (show i < 10000 by omega)]
      refine ⟨i10, nm_e (yb_b (by omega) (fun w => absurd w y) (fun _ => nm_r (nI_1 i) ?_))⟩
      have := nx (upd nu i (-1)) (fun c hc => pk_un (by omega)) (by
        rw [pk_us]; unfold nu_v; rw [if_neg (fun q => y (kn i q)), if_neg y])
      rw [uk (fun q => y q.1)] at this
      exact this
theorem yN_v (h10 : C ≤ 10) (h4 : R ≤ 4) (hC : y_classes = nI C) (hR : y_rules = nI R) (hkd : ∀ r, r < R → y_ruleKind r = 0 ∨ y_ruleKind r = 1) (hn : ∀ i, bt y_named i = true → i < C) {post : SY → Prop}
    (K : ∀ kept nu, ke_p R y_ruleClasses y_named kept → (∀ c, c < C → nu c = nu_v kept y_named c) → post (y_classes, y_methods, y_rules, y_place, y_named, y_made, y_namedMethods, y_live, y_built, y_depth, y_steps, y_outs, y_ending, y_isInterface, y_isAbstract, y_parent, y_ancestors, y_own, y_many, y_home, y_name, y_length, y_op, y_first, y_second, y_ruleKind, y_ruleClasses, y_ruleNames, y_inlined, nu, y_newName, y_family, y_vMethod, y_vLine, y_vHeld, y_put)) : wpY_renumber post (y_classes, y_methods, y_rules, y_place, y_named, y_made, y_namedMethods, y_live, y_built, y_depth, y_steps, y_outs, y_ending, y_isInterface, y_isAbstract, y_parent, y_ancestors, y_own, y_many, y_home, y_name, y_length, y_op, y_first, y_second, y_ruleKind, y_ruleClasses, y_ruleNames, y_inlined, y_number, y_newName, y_family, y_vMethod, y_vLine, y_vHeld, y_put) := by
  unfold wpY_renumber
  dsimp only
  refine yU_v hC hR h10 h4 (fun v hv => nm_e ⟨C + 1, ?_⟩)
  have ke : ke_p R y_ruleClasses y_named (v &&& y_named) := fun i => by
    rw [b_and, Bool.and_eq_true, hv i]
    constructor
    · rintro ⟨⟨_, r, hr, _, b⟩, a⟩; exact ⟨a, r, hr, b⟩
    · rintro ⟨a, r, hr, b⟩
      refine ⟨⟨hn i a, r, hr, ?_, b⟩, a⟩
      rcases hkd r hr with e | e <;> rw [e] <;> decide
  exact yN_l h10 hC (fun j y => by have := hn j ((ke j).mp y).1; omega) (fun j y => ((ke j).mp y).1) (fun nu h => K _ nu ke h) C 0 (C + 1) _ (by omega) (by omega) (fun c hc => by omega)
end
