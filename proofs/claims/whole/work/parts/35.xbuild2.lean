/-! ===== X's build as a whole ===== -/
section
variable {x_classCount x_methodCount x_ruleCount x_isBuilt x_faultPlace x_namedClasses x_madeClasses x_namedMethods x_liveMethods x_depth x_stepCount x_outCount x_traceCount : Int32} {x_isInterfaceClass x_chainOf x_interfacesOf x_ancestorsOf x_homeOf x_formOf x_nameOf x_lengthOf x_opOf x_classOf x_numberOf x_sourceMethod x_sourceLine x_callLine x_ruleKind x_ruleClasses x_ruleNames x_newNumber x_familyOf x_sightOf x_frameRow x_frameLine x_frameHeld x_outInts x_traceMethod x_traceLine : Nat → Int32} {y_parent y_many y_isAbstract y_name y_length y_op y_first y_second : Nat → Int32} {C M R : Nat}
theorem lc_rn {L O P N S U A : Nat → Int32} {inl nm N' : Nat → Int32} {nv : Nat → Nat → Int32} (T : tp_p C M R x_isInterfaceClass x_ancestorsOf x_interfacesOf x_chainOf y_parent y_many x_homeOf x_ruleKind x_ruleClasses x_ruleNames x_formOf x_nameOf L y_isAbstract y_name y_length O P N S U A y_op y_first y_second) (NF : ff_v C M x_isInterfaceClass x_ancestorsOf x_chainOf x_homeOf y_isAbstract y_name y_length y_op y_first y_second = none) (hi : in_ok M inl y_length)
    (hop : ∀ m x, m < M → x < hq_t (y_length m) → ¬ inl (6 * m + x) < 0 → ∃ t, t < M ∧ inl (6 * m + x) = nI t ∧ ∀ i, i < hq_t (y_length t) → y_op (6 * t + i) = 0 ∨ y_op (6 * t + i) = 5)
    (hnv : ∀ m x, m < M → x < hq_t (y_length m) → N (24 * m + x) = nv m x) (f0 : ∀ j, j < 720 → N' j = N j) {m : Nat} (hm : m < M)
    (f1 : ∀ k, k < po_n inl y_length m (hq_t (y_length m)) → N' (24 * (30 + m) + k) = fv_v (fo_v M x_ancestorsOf x_chainOf x_homeOf y_name) O P nm N (24 * (30 + m) + k)) {x : Nat} (hx : x < hq_t (y_length m)) (hc : lc_p inl y_length O P N S U A nv m x) :
    lc_p inl y_length O P N' S U A (rn_v (fo_v M x_ancestorsOf x_chainOf x_homeOf y_name) y_op y_first y_second nm N') m x := by
  have h30 := T.2.2.1.1
  have h10 := T.1.1
  have l6 := (tp_len T hm).2.2
  have g1 : 1 ≤ gy_n inl y_length m x := by
    unfold gy_n; split <;> omega
  have mo : po_n inl y_length m (x + 1) ≤ po_n inl y_length m (hq_t (y_length m)) := ps_mo (gr := gy_n inl y_length m) (by omega)
  rw [po_s] at mo
  obtain ⟨c1, c2, c3⟩ := hc
  refine ⟨fun n => ?_, fun n => ?_, c3⟩
  · obtain ⟨q1, q2, q3⟩ := c1 n
    refine ⟨q1, q2, ?_⟩
    rw [f1 _ (by omega)]
    obtain ⟨o, o6, ey, ex, k1, k2, k3⟩ := xc_c T NF hm hx
    unfold fv_v rn_v
    rw [q1, q2, q3, ex, ey]
    by_cases o23 : o = 2 ∨ o = 3
    · have oo : nI o = 2 ∨ nI o = 3 := by
        rcases o23 with z | z
        · subst z; exact Or.inl rfl
        · subst z; exact Or.inr rfl
      obtain ⟨q, qC, p1, p2⟩ := k1 (by omega)
      obtain ⟨en, _⟩ := k3 o23
      rw [if_pos oo, if_pos oo, p1, p2, ← hnv m x hm hx, en]
      cases fo_v M x_ancestorsOf x_chainOf x_homeOf y_name (hq_t (nI q)) (y_second (6 * m + x)) <;> rfl
    · have oo : ¬ (nI o = 2 ∨ nI o = 3) := by
        rintro (z | z)
        · exact o23 (Or.inl ((nI_eq (a := o) (b := 2) (by omega) (by omega)).mp z))
        · exact o23 (Or.inr ((nI_eq (a := o) (b := 3) (by omega) (by omega)).mp z))
      rw [if_neg oo, if_neg oo, f0 _ (by omega), hnv m x hm hx]
  · obtain ⟨q1, q2, q3, q4⟩ := c2 n
    obtain ⟨t, tM, et, eo⟩ := hop m x hm hx n
    have ht : hq_t (inl (6 * m + x)) = t := by rw [et]; exact hq_e (by omega)
    have l6t := (tp_len T tM).2.2
    refine ⟨q1, q2, ?_, fun i hk => ?_⟩
    · rw [f1 _ (by omega)]
      unfold fv_v
      rw [q1, if_neg (by decide), q3]
    · obtain ⟨r1, r2, r3, r4⟩ := q4 i hk
      refine ⟨r1, r2, ?_, r4⟩
      rw [gy_t hx n] at mo
      rw [ht] at hk mo r1 r3 ⊢
      have e : 24 * (30 + m) + po_n inl y_length m x + 1 + i = 24 * (30 + m) + (po_n inl y_length m x + 1 + i) := by omega
      rw [e] at r1 r3 ⊢
      rw [f1 _ (by omega), f0 _ (by omega)]
      obtain ⟨o, o6, e1, e2, _⟩ := T.2.2.2.2.2.1 t i tM hk
      have eo := eo i hk
      rw [e2] at eo
      unfold fv_v
      rw [r1, r3, e1]
      rcases eo with w | w
      · rw [w, if_neg (by decide)]
      · rw [w, if_neg (by decide)]
theorem xB_v (T : tp_p C M R x_isInterfaceClass x_ancestorsOf x_interfacesOf x_chainOf y_parent y_many x_homeOf x_ruleKind x_ruleClasses x_ruleNames x_formOf x_nameOf x_lengthOf y_isAbstract y_name y_length x_opOf x_classOf x_numberOf x_sourceMethod x_sourceLine x_callLine y_op y_first y_second) (hC : x_classCount = nI C) (hM : x_methodCount = nI M) (hR : x_ruleCount = nI R) {post : Int32 → SX → Prop}
    (Kf : ∀ k, ff_v C M x_isInterfaceClass x_ancestorsOf x_chainOf x_homeOf y_isAbstract y_name y_length y_op y_first y_second = some k → post (fl_v C x_isInterfaceClass y_isAbstract (fo_v M x_ancestorsOf x_chainOf x_homeOf y_name) (y_op k) (y_first k) (y_second k)) (x_classCount, x_methodCount, x_ruleCount, 0, nI (8 * (k / 6) + k % 6), x_namedClasses, x_madeClasses, x_namedMethods, x_liveMethods, x_depth, x_stepCount, x_outCount, x_traceCount, x_isInterfaceClass, x_chainOf, x_interfacesOf, x_ancestorsOf, x_homeOf, x_formOf, x_nameOf, x_lengthOf, x_opOf, x_classOf, x_numberOf, x_sourceMethod, x_sourceLine, x_callLine, x_ruleKind, x_ruleClasses, x_ruleNames, x_newNumber, x_familyOf, x_sightOf, x_frameRow, x_frameLine, x_frameHeld, x_outInts, x_traceMethod, x_traceLine))
    (K : ff_v C M x_isInterfaceClass x_ancestorsOf x_chainOf x_homeOf y_isAbstract y_name y_length y_op y_first y_second = none → ∀ a1 b1 c1 d1, mi_ok C M R x_ancestorsOf x_homeOf y_name x_ruleKind x_ruleClasses x_ruleNames (fun m => y_isAbstract m = 0) (ey_p C (fun m => y_isAbstract m = 0) x_ancestorsOf (fo_v M x_ancestorsOf x_chainOf x_homeOf y_name) y_length y_op y_first y_second (fun _ => -1)) a1 b1 c1 d1 → cl_ok C M R x_ancestorsOf x_homeOf y_name x_ruleKind x_ruleClasses x_ruleNames (fun m => y_isAbstract m = 0) (ey_p C (fun m => y_isAbstract m = 0) x_ancestorsOf (fo_v M x_ancestorsOf x_chainOf x_homeOf y_name) y_length y_op y_first y_second (fun _ => -1)) (mk_s a1 b1 c1 d1) → ∀ inl, (∀ m k, m < M → k < 6 → il_p C M x_ancestorsOf x_chainOf x_homeOf y_isAbstract y_name y_length y_op y_first y_second b1 d1 m k (inl (6 * m + k))) → ∀ a b c d, mi_ok C M R x_ancestorsOf x_homeOf y_name x_ruleKind x_ruleClasses x_ruleNames (fun m => y_isAbstract m = 0) (ey_p C (fun m => y_isAbstract m = 0) x_ancestorsOf (fo_v M x_ancestorsOf x_chainOf x_homeOf y_name) y_length y_op y_first y_second inl) a b c d → cl_ok C M R x_ancestorsOf x_homeOf y_name x_ruleKind x_ruleClasses x_ruleNames (fun m => y_isAbstract m = 0) (ey_p C (fun m => y_isAbstract m = 0) x_ancestorsOf (fo_v M x_ancestorsOf x_chainOf x_homeOf y_name) y_length y_op y_first y_second inl) (mk_s a b c d) →
      ∀ kept F nm L O P N S U A nu fa sg,
        tp_p C M R x_isInterfaceClass x_ancestorsOf x_interfacesOf x_chainOf y_parent y_many x_homeOf x_ruleKind x_ruleClasses x_ruleNames F nm L y_isAbstract y_name y_length O P N S U A y_op y_first y_second →
        xb_p C M R x_ancestorsOf x_chainOf x_homeOf x_ruleClasses x_ruleNames y_name y_length y_op y_first y_second inl a c d kept F nm L O P N S U A nu → post 0 (x_classCount, x_methodCount, x_ruleCount, 1, -1, a, b, c, d, x_depth, x_stepCount, x_outCount, x_traceCount, x_isInterfaceClass, x_chainOf, x_interfacesOf, x_ancestorsOf, x_homeOf, F, nm, L, O, P, N, S, U, A, x_ruleKind, x_ruleClasses, x_ruleNames, nu, fa, sg, x_frameRow, x_frameLine, x_frameHeld, x_outInts, x_traceMethod, x_traceLine)) :
    wpX_build post (x_classCount, x_methodCount, x_ruleCount, x_isBuilt, x_faultPlace, x_namedClasses, x_madeClasses, x_namedMethods, x_liveMethods, x_depth, x_stepCount, x_outCount, x_traceCount, x_isInterfaceClass, x_chainOf, x_interfacesOf, x_ancestorsOf, x_homeOf, x_formOf, x_nameOf, x_lengthOf, x_opOf, x_classOf, x_numberOf, x_sourceMethod, x_sourceLine, x_callLine, x_ruleKind, x_ruleClasses, x_ruleNames, x_newNumber, x_familyOf, x_sightOf, x_frameRow, x_frameLine, x_frameHeld, x_outInts, x_traceMethod, x_traceLine) := by
  have h30 := T.2.2.1.1
  have h10 := T.1.1
  have h4 := T.2.2.2.2.2.2.1
  unfold wpX_build
  dsimp only
  refine xp_v T hC hM ?_
  cases NF : ff_v C M x_isInterfaceClass x_ancestorsOf x_chainOf x_homeOf y_isAbstract y_name y_length y_op y_first y_second with
  | some k =>
    obtain ⟨kM, kb, _⟩ := sc_fe NF
    obtain ⟨m, i, i6, rfl⟩ : ∃ m i, i < 6 ∧ k = 6 * m + i := ⟨k / 6, k % 6, by omega, by omega⟩
    have e1 : (6 * m + i) / 6 = m := by omega
    have e2 : (6 * m + i) % 6 = i := by omega
    have kb := (fb_i i6).mp kb
    have fr : ff_r (some (6 * m + i)) = nI (8 * m + i) := by
      show nI (8 * ((6 * m + i) / 6) + (6 * m + i) % 6) = _
      rw [e1, e2]
    rw [fr]
    refine br_f (oI_n (by omega)) ⟨by decide, by decide, ?_⟩
    have d8 : nI (8 * m + i) / 8 = nI m := by
      have := pk_div (a := 8 * m + i) (d := 8) (by omega) (by decide) (by decide)
      rw [show (8 * m + i) / 8 = m from by omega] at this
      exact this
    have r8 : nI (8 * m + i) - nI (8 * m + i) / 8 * 8 = nI i := by
      have := pk_rem (a := 8 * m + i) (d := 8) (by omega) (by decide) (by decide)
      rw [show (8 * m + i) % 8 = i from by omega] at this
      exact this
    rw [r8, d8, nI_a24]
    refine xw_v T hC hM (by omega) kb.1 ?_
    have := Kf (6 * m + i) NF
    rw [e1, e2] at this
    exact this
  | none =>
    refine br_t rfl ?_
    refine xk_v (w := 0) T hC hM hR (by decide) (fun m k hm hk => ?_) (fun m hm => ?_) (fun a1 b1 c1 d1 m1 m2 => ?_)
    · rw [Nat.mul_zero, Nat.zero_add] at hk ⊢
      obtain ⟨l1, l2, _⟩ := tp_len T hm
      rw [l1, ← l2] at hk
      obtain ⟨o, o6, ey, ex, g1, g2, g3⟩ := xc_c T NF hm hk
      by_cases oc : 1 ≤ o ∧ o ≤ 4
      · obtain ⟨q, qC, _, e⟩ := g1 oc
        exact Or.inr ⟨q, qC, e⟩
      · exact Or.inl (g2 oc)
    · rw [Nat.mul_zero, Nat.zero_add]
      obtain ⟨l1, l2, l6⟩ := tp_len T hm
      rw [l1, hq_e (by omega)]
      exact ⟨by omega, rfl⟩
    · have eq0 : ∀ m Z, m < M → (ew_p C (fun m => y_isAbstract m = 0) x_ancestorsOf (fo_v M x_ancestorsOf x_chainOf x_homeOf y_name) x_lengthOf x_opOf x_classOf x_numberOf 0 m Z ↔ ey_p C (fun m => y_isAbstract m = 0) x_ancestorsOf (fo_v M x_ancestorsOf x_chainOf x_homeOf y_name) y_length y_op y_first y_second (fun _ => -1) m Z) := fun m Z hm => ee_0 T hm (fun _ => -1) (fun _ _ => by decide) Z
      have K := K NF a1 b1 c1 d1 (mi_cg eq0 m1) (cl_cg eq0 m2) (il_f C M x_ancestorsOf x_chainOf x_homeOf y_isAbstract y_name y_length y_op y_first y_second b1 d1)
      have hI : ∀ m k, m < M → k < 6 → il_p C M x_ancestorsOf x_chainOf x_homeOf y_isAbstract y_name y_length y_op y_first y_second b1 d1 m k (il_f C M x_ancestorsOf x_chainOf x_homeOf y_isAbstract y_name y_length y_op y_first y_second b1 d1 (6 * m + k)) := fun m k hm hk => by
        unfold il_f
        rw [show (6 * m + k) / 6 = m from by omega, show (6 * m + k) % 6 = k from by omega]
        exact il_e m k
      have K := K hI
      generalize il_f C M x_ancestorsOf x_chainOf x_homeOf y_isAbstract y_name y_length y_op y_first y_second b1 d1 = inl at K hI
      have hi : in_ok M inl y_length := in_il (fun m hm => (tp_len T hm).2.2) hI
      have hop : ∀ m x, m < M → x < hq_t (y_length m) → ¬ inl (6 * m + x) < 0 → ∃ t, t < M ∧ inl (6 * m + x) = nI t ∧ ∀ i, i < hq_t (y_length t) → y_op (6 * t + i) = 0 ∨ y_op (6 * t + i) = 5 := fun m x hm hx n => by
        have := (tp_len T hm).2.2
        rcases hI m x hm (by omega) with ⟨e, _⟩ | ⟨t, e, it⟩
        · rw [e] at n; exact absurd (by decide) n
        · exact ⟨t, it.2.2.1, e, it.2.2.2.2.2.2.1⟩
      have hop2 : ∀ m x, m < M → x < hq_t (y_length m) → ¬ inl (6 * m + x) < 0 → y_op (6 * m + x) = 2 ∨ y_op (6 * m + x) = 3 := fun m x hm hx n => by
        have := (tp_len T hm).2.2
        rcases hI m x hm (by omega) with ⟨e, _⟩ | ⟨t, e, it⟩
        · rw [e] at n; exact absurd (by decide) n
        · rcases it.2.2.2.2.2.2.2 with z | z
          · exact Or.inr z.1
          · exact Or.inl z.1
      dsimp only
      refine xg_v (inl := inl) (nv := fun m x => x_numberOf (24 * m + x)) T NF hC hM hI (fun _ _ _ _ => rfl) (fun L O P N S U A pv => ?_)
      obtain ⟨T1, pv2, _, pv4⟩ := pv
      dsimp only
      have l24 : ∀ m, m < M → po_n inl y_length m (hq_t (y_length m)) ≤ 24 := fun m hm => po_24 hi h30 hm (tp_len T hm).2.2
      refine xk_v (w := 1) T1 hC hM hR (by decide) (fun m k hm hk => ?_) (fun m hm => ?_) (fun a b c d n1 n2 => ?_)
      · rw [Nat.mul_one] at hk ⊢
        rw [(pv2 m hm).1, hq_e (by have := l24 m hm; omega)] at hk
        exact (ly_c T1 NF hi hop hm (pv2 m hm).2 hk).1
      · rw [Nat.mul_one, (pv2 m hm).1, hq_e (by have := l24 m hm; omega)]
        exact ⟨l24 m hm, rfl⟩
      have eq1 : ∀ m Z, m < M → (ew_p C (fun m => y_isAbstract m = 0) x_ancestorsOf (fo_v M x_ancestorsOf x_chainOf x_homeOf y_name) L O P N 1 m Z ↔ ey_p C (fun m => y_isAbstract m = 0) x_ancestorsOf (fo_v M x_ancestorsOf x_chainOf x_homeOf y_name) y_length y_op y_first y_second inl m Z) := fun m Z hm => ee_1 T1 hi hm (pv2 m hm).1 (pv2 m hm).2 (fun x hx => pv4 m x hm hx) (fun x hx n => by
        obtain ⟨o, _, e1, e2, _⟩ := T1.2.2.2.2.2.1 m x hm hx
        have := hop2 m x hm hx n
        rw [e2] at this
        rw [e1]; exact this) Z
      have K := K a b c d (mi_cg eq1 n1) (cl_cg eq1 n2)
      dsimp only
      refine xD_v h30 hM (fun F L' f1 f2 f3 f4 => ?_)
      have T2 : tp_p C M R x_isInterfaceClass x_ancestorsOf x_interfacesOf x_chainOf y_parent y_many x_homeOf x_ruleKind x_ruleClasses x_ruleNames F x_nameOf L' y_isAbstract y_name y_length O P N S U A y_op y_first y_second :=
        tp_fr T1 f1 (fun _ _ => rfl) f2 (fun _ _ => rfl) (fun _ _ => rfl) (fun _ _ => rfl) (fun _ _ => rfl) (fun _ _ => rfl) (fun _ _ => rfl)
      have f4' : ∀ m, m < M → L' (30 + m) = if bt d m = true then nI (po_n inl y_length m (hq_t (y_length m))) else 0 := fun m hm => by rw [f4 m hm, (pv2 m hm).1]
      dsimp only
      refine xN_v h10 h4 hC hR n1.2.2.1 (fun kept nu k1 k2 => ?_)
      dsimp only
      refine xJ_v (y_name := y_name) h10 T.2.2.1 hC hM (fun m hm => ?_) (fun fa hfa => ?_)
      · obtain ⟨⟨n, n10, e1, e2⟩, _⟩ := T.2.2.2.1 m hm
        rw [e1, e2]
      dsimp only
      refine xA_v T2 hC hM hR hfa (fun nm sg h1 h2 => ?_)
      have T3 : tp_p C M R x_isInterfaceClass x_ancestorsOf x_interfacesOf x_chainOf y_parent y_many x_homeOf x_ruleKind x_ruleClasses x_ruleNames F nm L' y_isAbstract y_name y_length O P N S U A y_op y_first y_second :=
        tp_fr T2 (fun _ _ => rfl) h1 (fun _ _ => rfl) (fun _ _ => rfl) (fun _ _ => rfl) (fun _ _ => rfl) (fun _ _ => rfl) (fun _ _ => rfl) (fun _ _ => rfl)
      dsimp only
      have hz : hq_t (0 : Int32) = 0 := hq_e (n := 0) (by decide)
      have lv : ∀ m, m < M → L' (30 + m) = nI (hq_t (L' (30 + m))) ∧ hq_t (L' (30 + m)) ≤ 24 := fun m hm => by
        rw [f4' m hm]
        have := l24 m hm
        by_cases q : bt d m = true
        · rw [if_pos q, hq_e (by omega)]; exact ⟨rfl, this⟩
        · rw [if_neg q, hz]; exact ⟨rfl, by omega⟩
      have inlv : ∀ m k, m < M → k < hq_t (L' (30 + m)) → k < po_n inl y_length m (hq_t (y_length m)) := fun m k hm hk => by
        rw [f4' m hm] at hk
        have := l24 m hm
        by_cases q : bt d m = true
        · rw [if_pos q, hq_e (by omega)] at hk; exact hk
        · rw [if_neg q, hz] at hk; omega
      refine xC_v T3 hM lv (fun m k hm hk => (ly_c T3 NF hi hop hm (pv2 m hm).2 (inlv m k hm hk)).2) (fun N' g1 g2 => ?_)
      dsimp only
      refine K kept F nm L' O P N' S U A nu fa sg (tp_fr T3 (fun _ _ => rfl) (fun _ _ => rfl) (fun _ _ => rfl) (fun _ _ => rfl) (fun _ _ => rfl) g1 (fun _ _ => rfl) (fun _ _ => rfl) (fun _ _ => rfl)) ⟨f3, f4', fun m hm q x hx => ?_, h2, k2, k1⟩
      refine lc_rn T3 NF hi hop pv4 g1 hm (fun k hk => g2 m k hm ?_) hx ((pv2 m hm).2 x hx)
      rw [f4' m hm, if_pos q, hq_e (by have := l24 m hm; omega)]
      exact hk
end
