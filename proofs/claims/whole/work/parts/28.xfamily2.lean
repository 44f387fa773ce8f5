/-! ===== families: X's rounds ===== -/
def fw_f (M : Nat) (fa : Nat → Int32) (m : Nat) : Nat := if m < M then hq_t (fa m) else m
theorem fw_i {M m : Nat} {fa : Nat → Int32} (h : m < M) : fw_f M fa m = hq_t (fa m) := if_pos h
theorem fw_o {M m : Nat} {fa : Nat → Int32} (h : ¬ m < M) : fw_f M fa m = m := if_neg h
theorem fw_c {kin : Nat → Nat → Prop} {M : Nat} {fa : Nat → Int32} (h30 : M ≤ 30) (h : fy_p kin M fa) (m : Nat) : fa_cp kin m (fw_f M fa m) := by
  by_cases c : m < M
  · rw [fw_i c]; exact (fy_v h30 h c).2.2
  · rw [fw_o c]; exact fa_cr kin m
theorem fw_l {kin : Nat → Nat → Prop} {M : Nat} {fa : Nat → Int32} (h30 : M ≤ 30) (h : fy_p kin M fa) (m : Nat) : fw_f M fa m ≤ m := by
  by_cases c : m < M
  · rw [fw_i c]; exact (fy_v h30 h c).2.1
  · rw [fw_o c]; exact Nat.le_refl m
section
variable {x_classCount x_methodCount x_ruleCount x_isBuilt x_faultPlace x_namedClasses x_madeClasses x_namedMethods x_liveMethods x_depth x_stepCount x_outCount x_traceCount : Int32} {x_isInterfaceClass x_chainOf x_interfacesOf x_ancestorsOf x_homeOf x_formOf x_nameOf x_lengthOf x_opOf x_classOf x_numberOf x_sourceMethod x_sourceLine x_callLine x_ruleKind x_ruleClasses x_ruleNames x_newNumber x_familyOf x_sightOf x_frameRow x_frameLine x_frameHeld x_outInts x_traceMethod x_traceLine : Nat → Int32} {C M R : Nat} {y_name : Nat → Int32}
theorem kn_M : ∀ a b, kn_p C M x_ancestorsOf x_homeOf y_name x_namedClasses x_namedMethods a b → a < M := fun _ _ h => h.1
theorem xJ_r (h10 : C ≤ 10) (g : mh_ok C M x_homeOf) (hC : x_classCount = nI C) (hM : x_methodCount = nI M) (hnm : ∀ m, m < M → x_nameOf m = y_name m) {post : SX → Prop} {J27 : Int32 → Int32 → (Nat → Int32) → (Nat → Int32) → (Nat → Int32) → (Nat → Int32) → (Nat → Int32) → (Nat → Int32) → (Nat → Int32) → (Nat → Int32) → (Nat → Int32) → (Nat → Int32) → (Nat → Int32) → (Nat → Int32) → (Nat → Int32) → (Nat → Int32) → (Nat → Int32) → (Nat → Int32) → (Nat → Int32) → (Nat → Int32) → (Nat → Int32) → (Nat → Int32) → (Nat → Int32) → (Nat → Int32) → (Nat → Int32) → (Nat → Int32) → (Nat → Int32) → (Nat → Int32) → Prop} {r : Nat}
    {f0 : Nat → Int32} (h0 : fy_p (kn_p C M x_ancestorsOf x_homeOf y_name x_namedClasses x_namedMethods) M f0)
    (K : ∀ fa j, fy_p (kn_p C M x_ancestorsOf x_homeOf y_name x_namedClasses x_namedMethods) M fa → (∀ m, m < M → hq_t (fa m) ≤ hq_t (f0 m)) → (∀ p q, kn_p C M x_ancestorsOf x_homeOf y_name x_namedClasses x_namedMethods p q → hq_t (fa p) ≤ hq_t (f0 q)) → (j = 0 ∨ j = 1) → (j = 0 → ∀ m, m < M → hq_t (fa m) = hq_t (f0 m)) → J27 j (nI (r + 1)) x_isInterfaceClass x_chainOf x_interfacesOf x_ancestorsOf x_homeOf x_formOf x_nameOf x_lengthOf x_opOf x_classOf x_numberOf x_sourceMethod x_sourceLine x_callLine x_ruleKind x_ruleClasses x_ruleNames x_newNumber fa x_sightOf x_frameRow x_frameLine x_frameHeld x_outInts x_traceMethod x_traceLine) :
    ∀ n i f fa j, i + n = M → n < f → fy_p (kn_p C M x_ancestorsOf x_homeOf y_name x_namedClasses x_namedMethods) M fa → (∀ m, m < M → hq_t (fa m) ≤ hq_t (f0 m)) → (∀ p q, p < i → kn_p C M x_ancestorsOf x_homeOf y_name x_namedClasses x_namedMethods p q → hq_t (fa p) ≤ hq_t (f0 q)) → (j = 0 ∨ j = 1) → (j = 0 → ∀ m, m < M → hq_t (fa m) = hq_t (f0 m)) →
      wX_joinFamilies_41 post J27 (nI r) x_classCount x_methodCount x_ruleCount x_isBuilt x_faultPlace x_namedClasses x_madeClasses x_namedMethods x_liveMethods x_depth x_stepCount x_outCount x_traceCount f j (nI i) x_isInterfaceClass x_chainOf x_interfacesOf x_ancestorsOf x_homeOf x_formOf x_nameOf x_lengthOf x_opOf x_classOf x_numberOf x_sourceMethod x_sourceLine x_callLine x_ruleKind x_ruleClasses x_ruleNames x_newNumber fa x_sightOf x_frameRow x_frameLine x_frameHeld x_outInts x_traceMethod x_traceLine := by
  have h30 := g.1
  intro n
  induction n with
  | zero =>
    intro i f fa j e hf a1 a2 a3 a4 a5
    obtain ⟨f, rfl⟩ : ∃ q, f = q + 1 := ⟨f - 1, by omega⟩
    have e : i = M := by omega
    subst e
    rw [wX_joinFamilies_41]
    exact br_t (by rw [hM]; exact nI_le (by omega) (by omega)) (nm_r (nI_1 r) (K fa j a1 a2 (fun p q k => a3 p q k.1 k) a4 a5))
  | succ n ih =>
    intro i f fa j e hf a1 a2 a3 a4 a5
    obtain ⟨f, rfl⟩ : ∃ q, f = q + 1 := ⟨f - 1, by omega⟩
    have i30 : vp_in (nI i) 30 := vp_in_nI (by omega) (by decide)
    obtain ⟨v1, v2, v3⟩ := fy_v h30 a1 (m := i) (by omega)
    rw [wX_joinFamilies_41]
    refine br_f (by rw [hM]; exact nI_ge (by omega) (by omega)) ?_
    refine xK_m h10 g hC hM hnm a1 (by omega) (fun k k1 k2 k3 => ⟨i30, ?_⟩)
    rw [nI_c (show i < 10000 by omega)]
    have he : hq_t (nI k) = k := hq_e (by omega)
    have nx : ∀ j', (j' = 0 ∨ j' = 1) → (j' = 0 → j = 0 ∧ k = hq_t (fa i)) → wX_joinFamilies_41 post J27 (nI r) x_classCount x_methodCount x_ruleCount x_isBuilt x_faultPlace x_namedClasses x_madeClasses x_namedMethods x_liveMethods x_depth x_stepCount x_outCount x_traceCount f j' (nI (i + 1)) x_isInterfaceClass x_chainOf x_interfacesOf x_ancestorsOf x_homeOf x_formOf x_nameOf x_lengthOf x_opOf x_classOf x_numberOf x_sourceMethod x_sourceLine x_callLine x_ruleKind x_ruleClasses x_ruleNames x_newNumber (upd fa i (nI k)) x_sightOf x_frameRow x_frameLine x_frameHeld x_outInts x_traceMethod x_traceLine := fun j' b1 b2 =>
      ih (i + 1) f _ j' (by omega) (by omega) (fun m hm => by
        by_cases c : m = i
        · subst c; rw [pk_us]; exact ⟨k, rfl, by omega, k2⟩
        · rw [pk_un c]; exact a1 m hm) (fun m hm => by
        by_cases c : m = i
        · subst c; rw [pk_us, he]; have := a2 m hm; omega
        · rw [pk_un c]; exact a2 m hm) (fun p q hp kq => by
        by_cases c : p = i
        · subst c; rw [pk_us, he]
          have x1 := k3 q kq
          have x2 := a2 q kq.2.1
          omega
        · rw [pk_un c]; exact a3 p q (by omega) kq) b1 (fun z m hm => by
        obtain ⟨y1, y2⟩ := b2 z
        by_cases c : m = i
        · subst c; rw [pk_us, he, y2]; exact a5 y1 m hm
        · rw [pk_un c]; exact a5 y1 m hm)
    refine pk_eq k (hq_t (fa i)) (fun w => ?_) (fun w => ?_) rfl v1
    · unfold wX_joinFamilies_73
      rw [nI_c (show i < 10000 by omega)]
      rcases a4 with z | z
      · subst z
        exact nm_r (show (0 : Int32) ||| 0 = 0 from by decide) ⟨i30, nm_e (nm_r (nI_1 i) (nx 0 (Or.inl rfl) (fun _ => ⟨rfl, w⟩)))⟩
      · subst z
        exact nm_r (show (1 : Int32) ||| 0 = 1 from by decide) ⟨i30, nm_e (nm_r (nI_1 i) (nx 1 (Or.inr rfl) (fun y => absurd y (by decide))))⟩
    · unfold wX_joinFamilies_73
      rw [nI_c (show i < 10000 by omega)]
      rcases a4 with z | z
      · subst z
        exact nm_r (show (0 : Int32) ||| 1 = 1 from by decide) ⟨i30, nm_e (nm_r (nI_1 i) (nx 1 (Or.inr rfl) (fun y => absurd y (by decide))))⟩
      · subst z
        exact nm_r (show (1 : Int32) ||| 1 = 1 from by decide) ⟨i30, nm_e (nm_r (nI_1 i) (nx 1 (Or.inr rfl) (fun y => absurd y (by decide))))⟩
theorem xJ_v (h10 : C ≤ 10) (g : mh_ok C M x_homeOf) (hC : x_classCount = nI C) (hM : x_methodCount = nI M) (hnm : ∀ m, m < M → x_nameOf m = y_name m) {post : SX → Prop}
    (K : ∀ fa, (∀ m, m < M → fa m = nI (kn_f C M x_ancestorsOf x_homeOf y_name x_namedClasses x_namedMethods m)) → post (x_classCount, x_methodCount, x_ruleCount, x_isBuilt, x_faultPlace, x_namedClasses, x_madeClasses, x_namedMethods, x_liveMethods, x_depth, x_stepCount, x_outCount, x_traceCount, x_isInterfaceClass, x_chainOf, x_interfacesOf, x_ancestorsOf, x_homeOf, x_formOf, x_nameOf, x_lengthOf, x_opOf, x_classOf, x_numberOf, x_sourceMethod, x_sourceLine, x_callLine, x_ruleKind, x_ruleClasses, x_ruleNames, x_newNumber, fa, x_sightOf, x_frameRow, x_frameLine, x_frameHeld, x_outInts, x_traceMethod, x_traceLine)) : wpX_joinFamilies post (x_classCount, x_methodCount, x_ruleCount, x_isBuilt, x_faultPlace, x_namedClasses, x_madeClasses, x_namedMethods, x_liveMethods, x_depth, x_stepCount, x_outCount, x_traceCount, x_isInterfaceClass, x_chainOf, x_interfacesOf, x_ancestorsOf, x_homeOf, x_formOf, x_nameOf, x_lengthOf, x_opOf, x_classOf, x_numberOf, x_sourceMethod, x_sourceLine, x_callLine, x_ruleKind, x_ruleClasses, x_ruleNames, x_newNumber, x_familyOf, x_sightOf, x_frameRow, x_frameLine, x_frameHeld, x_outInts, x_traceMethod, x_traceLine) := by
  have h30 := g.1
  have done : ∀ fa, fy_p (kn_p C M x_ancestorsOf x_homeOf y_name x_namedClasses x_namedMethods) M fa → (∀ m, fw_f M fa m = kn_f C M x_ancestorsOf x_homeOf y_name x_namedClasses x_namedMethods m) → post (x_classCount, x_methodCount, x_ruleCount, x_isBuilt, x_faultPlace, x_namedClasses, x_madeClasses, x_namedMethods, x_liveMethods, x_depth, x_stepCount, x_outCount, x_traceCount, x_isInterfaceClass, x_chainOf, x_interfacesOf, x_ancestorsOf, x_homeOf, x_formOf, x_nameOf, x_lengthOf, x_opOf, x_classOf, x_numberOf, x_sourceMethod, x_sourceLine, x_callLine, x_ruleKind, x_ruleClasses, x_ruleNames, x_newNumber, fa, x_sightOf, x_frameRow, x_frameLine, x_frameHeld, x_outInts, x_traceMethod, x_traceLine) := fun fa h s => K fa (fun m hm => by
    have := s m
    rw [fw_i hm] at this
    rw [(fy_v h30 h hm).1, this])
  have lo : ∀ n r f fa j, r + n = 30 → n < f → fy_p (kn_p C M x_ancestorsOf x_homeOf y_name x_namedClasses x_namedMethods) M fa → (j = 0 ∨ j = 1) → (j = 0 → ∀ m, fw_f M fa m = kn_f C M x_ancestorsOf x_homeOf y_name x_namedClasses x_namedMethods m) → ((∀ m, fw_f M fa m = kn_f C M x_ancestorsOf x_homeOf y_name x_namedClasses x_namedMethods m) ∨ r ≤ pc_n (fun m => decide (fw_f M fa m = kn_f C M x_ancestorsOf x_homeOf y_name x_namedClasses x_namedMethods m)) M) →
      wX_joinFamilies_27 post x_classCount x_methodCount x_ruleCount x_isBuilt x_faultPlace x_namedClasses x_madeClasses x_namedMethods x_liveMethods x_depth x_stepCount x_outCount x_traceCount f j (nI r) x_isInterfaceClass x_chainOf x_interfacesOf x_ancestorsOf x_homeOf x_formOf x_nameOf x_lengthOf x_opOf x_classOf x_numberOf x_sourceMethod x_sourceLine x_callLine x_ruleKind x_ruleClasses x_ruleNames x_newNumber fa x_sightOf x_frameRow x_frameLine x_frameHeld x_outInts x_traceMethod x_traceLine := by
    intro n
    induction n with
    | zero =>
      intro r f fa j e hf a1 a2 a3 a4
      obtain ⟨f, rfl⟩ : ∃ q, f = q + 1 := ⟨f - 1, by omega⟩
      rw [wX_joinFamilies_27]
      refine br_t (nI_le (a := 30) (by omega) (by omega)) (done fa a1 ?_)
      rcases a4 with z | z
      · exact z
      · intro m
        by_cases c : m < M
        · exact of_decide_eq_true (pc_full (p := fun m => decide (fw_f M fa m = kn_f C M x_ancestorsOf x_homeOf y_name x_namedClasses x_namedMethods m)) (n := M) (by omega) m c)
        · rw [fw_o c]
          have h1 := fa_lc (kn_p C M x_ancestorsOf x_homeOf y_name x_namedClasses x_namedMethods) m
          have h2 := (h1 (fun x => x = m) (fun a b k => ⟨fun z => by have := k.1; omega, fun z => by have := k.2.1; omega⟩)).mp rfl
          exact h2.symm
    | succ n ih =>
      intro r f fa j e hf a1 a2 a3 a4
      obtain ⟨f, rfl⟩ : ∃ q, f = q + 1 := ⟨f - 1, by omega⟩
      rw [wX_joinFamilies_27]
      refine br_f (nI_ge (b := 30) (by omega) (by decide)) (br_c (fun z => done fa a1 (a3 z)) (fun z => ⟨M + 1, ?_⟩))
      refine xJ_r h10 g hC hM hnm a1 (fun fa' j' b1 b2 b3 b4 b5 => ?_) M 0 (M + 1) fa 0 (by omega) (by omega) a1 (fun m hm => Nat.le_refl _) (fun p q hp => by omega) (Or.inl rfl) (fun _ m hm => rfl)
      have n1 : ∀ m, fw_f M fa' m ≤ fw_f M fa m := fun m => by
        by_cases c : m < M
        · rw [fw_i c, fw_i c]; exact b2 m c
        · rw [fw_o c, fw_o c]; exact Nat.le_refl _
      have nk : ∀ a b, kn_p C M x_ancestorsOf x_homeOf y_name x_namedClasses x_namedMethods a b → fw_f M fa' a ≤ fw_f M fa b := fun a b k => by
        rw [fw_i k.1, fw_i k.2.1]; exact b3 a b k
      refine ih (r + 1) f fa' j' (by omega) (by omega) b1 b4 (fun j0 m => ?_) ?_
      · have same : ∀ m, fw_f M fa' m = fw_f M fa m := fun m => by
          by_cases c : m < M
          · rw [fw_i c, fw_i c]; exact b5 j0 m c
          · rw [fw_o c, fw_o c]
        refine fa_st (fun a b k => ?_) (fw_c h30 b1) (fw_l h30 b1) m
        have x1 := nk a b k
        have x2 := nk b a (kn_sy a b k)
        rw [same a] at x1
        rw [same b] at x2
        rw [same a, same b]; omega
      · rcases a4 with s | s
        · refine Or.inl (fun m => ?_)
          have x1 := n1 m
          have x2 := fa_ll (fw_c h30 b1 m)
          have x3 := s m
          have x4 : kn_f C M x_ancestorsOf x_homeOf y_name x_namedClasses x_namedMethods m = fa_lf (kn_p C M x_ancestorsOf x_homeOf y_name x_namedClasses x_namedMethods) m := rfl
          omega
        · rcases fa_rd (kn_sy (C := C) (M := M) (anc := x_ancestorsOf) (hom := x_homeOf) (nam := y_name) (N := x_namedClasses) (Q := x_namedMethods)) (M := M) (fun a b k => k.1) (fw_c h30 a1) (fw_l h30 a1) (fw_c h30 b1) n1 nk with w | w
          · refine Or.inl (fun m => ?_)
            have x1 := n1 m
            have x2 := fa_ll (fw_c h30 b1 m)
            have x3 := w m
            have x4 : kn_f C M x_ancestorsOf x_homeOf y_name x_namedClasses x_namedMethods m = fa_lf (kn_p C M x_ancestorsOf x_homeOf y_name x_namedClasses x_namedMethods) m := rfl
            omega
          · have w : pc_n (fun m => decide (fw_f M fa m = kn_f C M x_ancestorsOf x_homeOf y_name x_namedClasses x_namedMethods m)) M < pc_n (fun m => decide (fw_f M fa' m = kn_f C M x_ancestorsOf x_homeOf y_name x_namedClasses x_namedMethods m)) M := w
            exact Or.inr (by omega)
  have st : ∀ n i f fa, i + n = M → n < f → (∀ m, m < i → fa m = nI m) → wX_joinFamilies_2 post x_classCount x_methodCount x_ruleCount x_isBuilt x_faultPlace x_namedClasses x_madeClasses x_namedMethods x_liveMethods x_depth x_stepCount x_outCount x_traceCount f (nI i) x_isInterfaceClass x_chainOf x_interfacesOf x_ancestorsOf x_homeOf x_formOf x_nameOf x_lengthOf x_opOf x_classOf x_numberOf x_sourceMethod x_sourceLine x_callLine x_ruleKind x_ruleClasses x_ruleNames x_newNumber fa x_sightOf x_frameRow x_frameLine x_frameHeld x_outInts x_traceMethod x_traceLine := by
    intro n
    induction n with
    | zero =>
      intro i f fa e hf z
      obtain ⟨f, rfl⟩ : ∃ q, f = q + 1 := ⟨f - 1, by omega⟩
      have e : i = M := by omega
      subst e
      rw [wX_joinFamilies_2]
      refine br_t (by rw [hM]; exact nI_le (by omega) (by omega)) ⟨31, ?_⟩
      exact lo 30 0 31 fa 1 (by omega) (by omega) (fun m hm => ⟨m, z m hm, Nat.le_refl m, fa_cr _ m⟩) (Or.inr rfl) (fun y => absurd y (by decide)) (Or.inr (by omega))
    | succ n ih =>
      intro i f fa e hf z
      obtain ⟨f, rfl⟩ : ∃ q, f = q + 1 := ⟨f - 1, by omega⟩
      rw [wX_joinFamilies_2]
      refine br_f (by rw [hM]; exact nI_ge (by omega) (by omega)) ⟨vp_in_nI (by omega) (by decide), ?_⟩
      rw [nI_c (show i < 10000 by omega)]
      refine nm_e (nm_r (nI_1 i) (ih (i + 1) f _ (by omega) (by omega) (fun m hm => ?_)))
      by_cases c : m = i
      · subst c; exact pk_us
      · rw [pk_un c]; exact z m (by omega)
  unfold wpX_joinFamilies
  exact ⟨M + 1, st M 0 (M + 1) _ (by omega) (by omega) (fun m hm => by omega)⟩
end
