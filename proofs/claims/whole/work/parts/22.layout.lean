/-! ===== the layout of the new program ===== -/
def in_ok (M : Nat) (inl ylen : Nat → Int32) : Prop := ∀ m x, m < M → x < hq_t (ylen m) → inl (6 * m + x) = -1 ∨ ∃ t, t < M ∧ inl (6 * m + x) = nI t ∧ hq_t (ylen t) ≤ 3
theorem gy_4 {M : Nat} {inl ylen : Nat → Int32} (h : in_ok M inl ylen) (hM : M ≤ 30) {m : Nat} (hm : m < M) (x : Nat) : gy_n inl ylen m x ≤ 4 := by
  unfold gy_n
  by_cases c : x < hq_t (ylen m) ∧ ¬ inl (6 * m + x) < 0
  · rw [if_pos c]
    rcases h m x hm c.1 with e | ⟨t, tM, e, l3⟩
    · rw [e] at c; exact absurd (by decide) c.2
    · rw [e, hq_e (by omega)]; omega
  · rw [if_neg c]; omega
theorem po_24 {M : Nat} {inl ylen : Nat → Int32} (h : in_ok M inl ylen) (hM : M ≤ 30) {m : Nat} (hm : m < M) {x : Nat} (hx : x ≤ 6) : po_n inl ylen m x ≤ 24 := by
  have := ps_4 (gy_4 h hM hm) x
  unfold po_n
  omega
theorem po_s (inl ylen : Nat → Int32) (m x : Nat) : po_n inl ylen m (x + 1) = po_n inl ylen m x + gy_n inl ylen m x := rfl
theorem gy_1 {inl ylen : Nat → Int32} {m x : Nat} (h : inl (6 * m + x) < 0) : gy_n inl ylen m x = 1 := if_neg (fun z => z.2 h)
theorem gy_t {inl ylen : Nat → Int32} {m x : Nat} (hx : x < hq_t (ylen m)) (h : ¬ inl (6 * m + x) < 0) : gy_n inl ylen m x = 1 + hq_t (ylen (hq_t (inl (6 * m + x)))) := if_pos ⟨hx, h⟩
/-- what lies below stays -/
theorem lc_fr {M : Nat} {inl ylen O P N S U A O' P' N' S' U' A' : Nat → Int32} {nv : Nat → Nat → Int32} (h : in_ok M inl ylen) (hM : M ≤ 30) {m x : Nat} (hm : m < M) (hx : x < hq_t (ylen m)) (h6 : hq_t (ylen m) ≤ 6)
    {B : Nat} (hB : 24 * (30 + m) + po_n inl ylen m (x + 1) ≤ B)
    (fO : ∀ j, j < B → O' j = O j) (fP : ∀ j, j < B → P' j = P j) (fN : ∀ j, j < B → N' j = N j) (fS : ∀ j, j < B → S' j = S j) (fU : ∀ j, j < B → U' j = U j) (fA : ∀ j, j < B → A' j = A j)
    (z : lc_p inl ylen O P N S U A nv m x) : lc_p inl ylen O' P' N' S' U' A' nv m x := by
  rw [po_s] at hB
  obtain ⟨z1, z2, z3, z4, z5⟩ := z
  have g1 : 1 ≤ gy_n inl ylen m x := by
    unfold gy_n; split <;> omega
  refine ⟨fun i => ?_, fun i => ?_, ?_, ?_, ?_⟩
  · obtain ⟨a, b, c⟩ := z1 i
    rw [fO _ (by omega), fO _ (by omega), fP _ (by omega), fP _ (by omega), fN _ (by omega)]
    exact ⟨a, b, c⟩
  · obtain ⟨a, b, c, d⟩ := z2 i
    rw [fO _ (by omega), fO _ (by omega), fP _ (by omega), fP _ (by omega), fN _ (by omega)]
    refine ⟨a, b, c, fun k hk => ?_⟩
    rw [gy_t hx i] at hB
    rcases h m x hm hx with e | ⟨t, tM, e, l3⟩
    · rw [e] at i; exact absurd (by decide) i
    · have ht : hq_t (inl (6 * m + x)) = t := by rw [e]; exact hq_e (by omega)
      have d := d k hk
      rw [ht] at hB hk d ⊢
      rw [fO _ (by omega), fO _ (by omega), fP _ (by omega), fN _ (by omega), fN _ (by omega), fS _ (by omega), fU _ (by omega), fA _ (by omega)]
      exact d
  · rw [fS _ (by omega)]; exact z3
  · rw [fU _ (by omega)]; exact z4
  · rw [fA _ (by omega)]; exact z5
section
variable {x_classCount x_methodCount x_ruleCount x_isBuilt x_faultPlace x_namedClasses x_madeClasses x_namedMethods x_liveMethods x_depth x_stepCount x_outCount x_traceCount : Int32} {x_isInterfaceClass x_chainOf x_interfacesOf x_ancestorsOf x_homeOf x_formOf x_nameOf x_lengthOf x_opOf x_classOf x_numberOf x_sourceMethod x_sourceLine x_callLine x_ruleKind x_ruleClasses x_ruleNames x_newNumber x_familyOf x_sightOf x_frameRow x_frameLine x_frameHeld x_outInts x_traceMethod x_traceLine : Nat → Int32} {y_parent y_many y_isAbstract y_name y_length y_op y_first y_second : Nat → Int32} {C M R : Nat} {inl : Nat → Int32} {nv : Nat → Nat → Int32}
/-- the rows below m are laid, and k lines of row m -/
def pv_p (C M R : Nat) (ifc anc own chn par many hom rk rc rn xform xname yabs yname ylen yop yfi yse inl : Nat → Int32) (nv : Nat → Nat → Int32) (m k : Nat) (L O P N S U A : Nat → Int32) : Prop :=
  tp_p C M R ifc anc own chn par many hom rk rc rn xform xname L yabs yname ylen O P N S U A yop yfi yse ∧
  (∀ m', m' < m → L (30 + m') = nI (po_n inl ylen m' (hq_t (ylen m'))) ∧ ∀ x, x < hq_t (ylen m') → lc_p inl ylen O P N S U A nv m' x) ∧
  (∀ x, x < k → lc_p inl ylen O P N S U A nv m x) ∧ (∀ m x, m < M → x < hq_t (ylen m) → N (24 * m + x) = nv m x)
theorem pv_fr (h : in_ok M inl y_length) {m k : Nat} (hm : m < M) (hk : k ≤ hq_t (y_length m)) {L O P N S U A : Nat → Int32} {L' O' P' N' S' U' A' : Nat → Int32} (z : pv_p C M R x_isInterfaceClass x_ancestorsOf x_interfacesOf x_chainOf y_parent y_many x_homeOf x_ruleKind x_ruleClasses x_ruleNames x_formOf x_nameOf y_isAbstract y_name y_length y_op y_first y_second inl nv m k L O P N S U A)
    (fL : ∀ j, j < 30 + m → L' j = L j) (fO : ∀ j, j < 24 * (30 + m) + po_n inl y_length m k → O' j = O j) (fP : ∀ j, j < 24 * (30 + m) + po_n inl y_length m k → P' j = P j) (fN : ∀ j, j < 24 * (30 + m) + po_n inl y_length m k → N' j = N j)
    (fS : ∀ j, j < 24 * (30 + m) + po_n inl y_length m k → S' j = S j) (fU : ∀ j, j < 24 * (30 + m) + po_n inl y_length m k → U' j = U j) (fA : ∀ j, j < 24 * (30 + m) + po_n inl y_length m k → A' j = A j) : pv_p C M R x_isInterfaceClass x_ancestorsOf x_interfacesOf x_chainOf y_parent y_many x_homeOf x_ruleKind x_ruleClasses x_ruleNames x_formOf x_nameOf y_isAbstract y_name y_length y_op y_first y_second inl nv m k L' O' P' N' S' U' A' := by
  obtain ⟨T, z2, z3, z4⟩ := z
  have h30 := T.2.2.1.1
  refine ⟨tp_fr T (fun _ _ => rfl) (fun _ _ => rfl) (fun j hj => fL j (by omega)) (fun j hj => fO j (by omega)) (fun j hj => fP j (by omega)) (fun j hj => fN j (by omega)) (fun j hj => fS j (by omega)) (fun j hj => fU j (by omega)) (fun j hj => fA j (by omega)), fun m' hm' => ?_, fun x hx => ?_, fun m' x hm' hx => ?_⟩
  · have l6 := (tp_len T (m := m') (by omega)).2.2
    obtain ⟨a, b⟩ := z2 m' hm'
    refine ⟨by rw [fL _ (by omega)]; exact a, fun x hx => ?_⟩
    have := po_24 h h30 (m := m') (by omega) (x := x + 1) (by omega)
    exact lc_fr h h30 (by omega) hx l6 (B := 24 * (30 + m) + po_n inl y_length m k) (by omega) fO fP fN fS fU fA (b x hx)
  · have l6 := (tp_len T hm).2.2
    have := ps_mo (gr := gy_n inl y_length m) (x := x + 1) (y := k) (by omega)
    exact lc_fr h h30 hm (by omega) l6 (B := 24 * (30 + m) + po_n inl y_length m k) (by unfold po_n; omega) fO fP fN fS fU fA (z3 x hx)
  · have l6 := (tp_len T hm').2.2
    rw [fN _ (by omega)]; exact z4 m' x hm' hx
theorem xy_v {post : SX → Prop} {fr row l : Nat} {ia : Int32} (hf : fr < 1440) (hr : row < 60) (el : x_lengthOf row = nI l) (hl : 24 * row + l < 1440)
    (hp : post (x_classCount, x_methodCount, x_ruleCount, x_isBuilt, x_faultPlace, x_namedClasses, x_madeClasses, x_namedMethods, x_liveMethods, x_depth, x_stepCount, x_outCount, x_traceCount, x_isInterfaceClass, x_chainOf, x_interfacesOf, x_ancestorsOf, x_homeOf, x_formOf, x_nameOf, upd x_lengthOf row (nI (l + 1)), upd x_opOf (24 * row + l) (x_opOf fr), upd x_classOf (24 * row + l) (x_classOf fr), upd x_numberOf (24 * row + l) (x_numberOf fr), upd x_sourceMethod (24 * row + l) (x_sourceMethod fr), upd x_sourceLine (24 * row + l) (x_sourceLine fr), upd x_callLine (24 * row + l) ia, x_ruleKind, x_ruleClasses, x_ruleNames, x_newNumber, x_familyOf, x_sightOf, x_frameRow, x_frameLine, x_frameHeld, x_outInts, x_traceMethod, x_traceLine)) :
    wpX_copyInstruction post (x_classCount, x_methodCount, x_ruleCount, x_isBuilt, x_faultPlace, x_namedClasses, x_madeClasses, x_namedMethods, x_liveMethods, x_depth, x_stepCount, x_outCount, x_traceCount, x_isInterfaceClass, x_chainOf, x_interfacesOf, x_ancestorsOf, x_homeOf, x_formOf, x_nameOf, x_lengthOf, x_opOf, x_classOf, x_numberOf, x_sourceMethod, x_sourceLine, x_callLine, x_ruleKind, x_ruleClasses, x_ruleNames, x_newNumber, x_familyOf, x_sightOf, x_frameRow, x_frameLine, x_frameHeld, x_outInts, x_traceMethod, x_traceLine) (nI fr) (nI row) ia := by
  unfold wpX_copyInstruction
  dsimp only
  rw [nI_c (show fr < 10000 by omega), nI_c (show row < 10000 by omega), el, nI_a24, nI_1]
  refine ⟨vp_in_nI hr (by decide), nm_e ?_⟩
  rw [nI_c (show 24 * row + l < 10000 by omega)]
  have i1 : vp_in (nI fr) 1440 := vp_in_nI hf (by decide)
  have i2 : vp_in (nI (24 * row + l)) 1440 := vp_in_nI hl (by decide)
  have i3 : vp_in (nI row) 60 := vp_in_nI hr (by decide)
  exact ⟨i1, i2, nm_e ⟨i1, i2, nm_e ⟨i1, i2, nm_e ⟨i1, i2, nm_e ⟨i1, i2, nm_e ⟨i2, nm_e ⟨i3, i3, nm_e hp⟩⟩⟩⟩⟩⟩⟩
end
