/-! ===== X: renaming the calls ===== -/
def fv_v (F : Nat → Int32 → Option Nat) (xop xcl xname : Nat → Int32) (N : Nat → Int32) (j : Nat) : Int32 :=
  if xop j = 2 ∨ xop j = 3 then (match F (hq_t (xcl j)) (N j) with
    | some g => xname (30 + g)
    | none => -1) else N j
section
variable {x_classCount x_methodCount x_ruleCount x_isBuilt x_faultPlace x_namedClasses x_madeClasses x_namedMethods x_liveMethods x_depth x_stepCount x_outCount x_traceCount : Int32} {x_isInterfaceClass x_chainOf x_interfacesOf x_ancestorsOf x_homeOf x_formOf x_nameOf x_lengthOf x_opOf x_classOf x_numberOf x_sourceMethod x_sourceLine x_callLine x_ruleKind x_ruleClasses x_ruleNames x_newNumber x_familyOf x_sightOf x_frameRow x_frameLine x_frameHeld x_outInts x_traceMethod x_traceLine : Nat → Int32} {y_parent y_many y_isAbstract y_name y_length y_op y_first y_second : Nat → Int32} {C M R : Nat}
theorem xC_i (T : tp_p C M R x_isInterfaceClass x_ancestorsOf x_interfacesOf x_chainOf y_parent y_many x_homeOf x_ruleKind x_ruleClasses x_ruleNames x_formOf x_nameOf x_lengthOf y_isAbstract y_name y_length x_opOf x_classOf x_numberOf x_sourceMethod x_sourceLine x_callLine y_op y_first y_second) (hM : x_methodCount = nI M) (hL : (∀ m, m < M → x_lengthOf (30 + m) = nI (hq_t (x_lengthOf (30 + m))) ∧ hq_t (x_lengthOf (30 + m)) ≤ 24)) (hc : (∀ m k, m < M → k < hq_t (x_lengthOf (30 + m)) → (x_opOf (24 * (30 + m) + k) = 2 ∨ x_opOf (24 * (30 + m) + k) = 3) → ∃ c, c < C ∧ x_classOf (24 * (30 + m) + k) = nI c)) {post : SX → Prop} {J : Int32 → (Nat → Int32) → (Nat → Int32) → (Nat → Int32) → (Nat → Int32) → (Nat → Int32) → (Nat → Int32) → (Nat → Int32) → (Nat → Int32) → (Nat → Int32) → (Nat → Int32) → (Nat → Int32) → (Nat → Int32) → (Nat → Int32) → (Nat → Int32) → (Nat → Int32) → (Nat → Int32) → (Nat → Int32) → (Nat → Int32) → (Nat → Int32) → (Nat → Int32) → (Nat → Int32) → (Nat → Int32) → (Nat → Int32) → (Nat → Int32) → (Nat → Int32) → (Nat → Int32) → Prop} {m : Nat} (hm : m < M)
    (K : ∀ N, (∀ j, j < 24 * (30 + m) → True) → (∀ j, j < 720 → N j = x_numberOf j) → (∀ j, 24 * (30 + (m + 1)) ≤ j → N j = x_numberOf j) → (∀ m' k, m' < m + 1 → k < hq_t (x_lengthOf (30 + m')) → N (24 * (30 + m') + k) = fv_v (fo_v M x_ancestorsOf x_chainOf x_homeOf y_name) x_opOf x_classOf x_nameOf x_numberOf (24 * (30 + m') + k)) → J (nI (30 + (m + 1))) x_isInterfaceClass x_chainOf x_interfacesOf x_ancestorsOf x_homeOf x_formOf x_nameOf x_lengthOf x_opOf x_classOf N x_sourceMethod x_sourceLine x_callLine x_ruleKind x_ruleClasses x_ruleNames x_newNumber x_familyOf x_sightOf x_frameRow x_frameLine x_frameHeld x_outInts x_traceMethod x_traceLine) :
    ∀ q k f N, k + q = hq_t (x_lengthOf (30 + m)) → q < f → (∀ j, j < 720 → N j = x_numberOf j) → (∀ j, 24 * (30 + m) + k ≤ j → N j = x_numberOf j) →
      (∀ m' k', m' < m → k' < hq_t (x_lengthOf (30 + m')) → N (24 * (30 + m') + k') = fv_v (fo_v M x_ancestorsOf x_chainOf x_homeOf y_name) x_opOf x_classOf x_nameOf x_numberOf (24 * (30 + m') + k')) → (∀ k', k' < k → N (24 * (30 + m) + k') = fv_v (fo_v M x_ancestorsOf x_chainOf x_homeOf y_name) x_opOf x_classOf x_nameOf x_numberOf (24 * (30 + m) + k')) →
      wX_renameCalls_16 post J (nI (30 + m)) x_classCount x_methodCount x_ruleCount x_isBuilt x_faultPlace x_namedClasses x_madeClasses x_namedMethods x_liveMethods x_depth x_stepCount x_outCount x_traceCount f (nI k) x_isInterfaceClass x_chainOf x_interfacesOf x_ancestorsOf x_homeOf x_formOf x_nameOf x_lengthOf x_opOf x_classOf N x_sourceMethod x_sourceLine x_callLine x_ruleKind x_ruleClasses x_ruleNames x_newNumber x_familyOf x_sightOf x_frameRow x_frameLine x_frameHeld x_outInts x_traceMethod x_traceLine := by
  have h30 := T.2.2.1.1
  have h10 := T.1.1
  obtain ⟨l1, l24⟩ := hL m hm
  intro q
  induction q with
  | zero =>
    intro k f N e hf a1 a2 a3 a4
    obtain ⟨f, rfl⟩ : ∃ q, f = q + 1 := ⟨f - 1, by omega⟩
    rw [wX_renameCalls_16]
    refine ⟨vp_in_nI (by omega) (by decide), ?_⟩
    rw [nI_c (show 30 + m < 10000 by omega), l1]
    refine br_t (nI_le (by omega) (by omega)) (nm_r (nI_1 (30 + m)) (K N (fun _ _ => trivial) a1 (fun j hj => a2 j (by omega)) (fun m' k' hm' hk' => ?_)))
    rcases Nat.lt_or_ge m' m with w | w
    · exact a3 m' k' w hk'
    · have : m' = m := by omega
      subst this; exact a4 k' (by omega)
  | succ q ih =>
    intro k f N e hf a1 a2 a3 a4
    obtain ⟨f, rfl⟩ : ∃ q, f = q + 1 := ⟨f - 1, by omega⟩
    have hk : k < hq_t (x_lengthOf (30 + m)) := by omega
    have i1 : vp_in (nI (24 * (30 + m) + k)) 1440 := vp_in_nI (by omega) (by decide)
    have T' : tp_p C M R x_isInterfaceClass x_ancestorsOf x_interfacesOf x_chainOf y_parent y_many x_homeOf x_ruleKind x_ruleClasses x_ruleNames x_formOf x_nameOf x_lengthOf y_isAbstract y_name y_length x_opOf x_classOf N x_sourceMethod x_sourceLine x_callLine y_op y_first y_second :=
      tp_fr T (fun _ _ => rfl) (fun _ _ => rfl) (fun _ _ => rfl) (fun _ _ => rfl) (fun _ _ => rfl) a1 (fun _ _ => rfl) (fun _ _ => rfl) (fun _ _ => rfl)
    have ne : N (24 * (30 + m) + k) = x_numberOf (24 * (30 + m) + k) := a2 _ (by omega)
    have call : (x_opOf (24 * (30 + m) + k) = 2 ∨ x_opOf (24 * (30 + m) + k) = 3) → wX_renameCalls_53 post J (wX_renameCalls_16 post J (nI (30 + m)) x_classCount x_methodCount x_ruleCount x_isBuilt x_faultPlace x_namedClasses x_madeClasses x_namedMethods x_liveMethods x_depth x_stepCount x_outCount x_traceCount f) (nI (30 + m)) (nI k) (nI (24 * (30 + m) + k)) x_classCount x_methodCount x_ruleCount x_isBuilt x_faultPlace x_namedClasses x_madeClasses x_namedMethods x_liveMethods x_depth x_stepCount x_outCount x_traceCount x_isInterfaceClass x_chainOf x_interfacesOf x_ancestorsOf x_homeOf x_formOf x_nameOf x_lengthOf x_opOf x_classOf N x_sourceMethod x_sourceLine x_callLine x_ruleKind x_ruleClasses x_ruleNames x_newNumber x_familyOf x_sightOf x_frameRow x_frameLine x_frameHeld x_outInts x_traceMethod x_traceLine := fun o23 => by
      obtain ⟨c, cC, ec⟩ := hc m k hm hk o23
      have go : ∀ v, v = fv_v (fo_v M x_ancestorsOf x_chainOf x_homeOf y_name) x_opOf x_classOf x_nameOf x_numberOf (24 * (30 + m) + k) → wX_renameCalls_16 post J (nI (30 + m)) x_classCount x_methodCount x_ruleCount x_isBuilt x_faultPlace x_namedClasses x_madeClasses x_namedMethods x_liveMethods x_depth x_stepCount x_outCount x_traceCount f (nI (k + 1)) x_isInterfaceClass x_chainOf x_interfacesOf x_ancestorsOf x_homeOf x_formOf x_nameOf x_lengthOf x_opOf x_classOf (upd N (24 * (30 + m) + k) v) x_sourceMethod x_sourceLine x_callLine x_ruleKind x_ruleClasses x_ruleNames x_newNumber x_familyOf x_sightOf x_frameRow x_frameLine x_frameHeld x_outInts x_traceMethod x_traceLine := fun v hv =>
        ih (k + 1) f _ (by omega) (by omega) (fun j hj => by rw [pk_un (by omega)]; exact a1 j hj) (fun j hj => by rw [pk_un (by omega)]; exact a2 j (by omega)) (fun m' k' hm' hk' => by
          have := (hL m' (by omega)).2
          rw [pk_un (by omega)]; exact a3 m' k' hm' hk') (fun k' hk' => by
          by_cases w : k' = k
          · subst w; rw [pk_us]; exact hv
          · rw [pk_un (by omega)]; exact a4 k' (by omega))
      have fe : fv_v (fo_v M x_ancestorsOf x_chainOf x_homeOf y_name) x_opOf x_classOf x_nameOf x_numberOf (24 * (30 + m) + k) = (match fo_v M x_ancestorsOf x_chainOf x_homeOf y_name c (x_numberOf (24 * (30 + m) + k)) with
          | some g => x_nameOf (30 + g)
          | none => -1) := by
        unfold fv_v
        rw [if_pos o23, ec, hq_e (by omega)]
      unfold wX_renameCalls_53
      rw [nI_c (show 24 * (30 + m) + k < 10000 by omega), ec, ne]
      refine ⟨i1, i1, xo_v T' hM cC ?_⟩
      cases ef : fo_v M x_ancestorsOf x_chainOf x_homeOf y_name c (x_numberOf (24 * (30 + m) + k)) with
      | none =>
        rw [ef] at fe
        exact br_t rfl ⟨i1, nm_e (nm_r (nI_1 k) (go _ fe.symm))⟩
      | some g =>
        rw [ef] at fe
        have gM := (fd_s T.1 cC ef).1
        refine br_f (oI_n (by omega)) ?_
        rw [oI_s, nI_b30, nI_c (show 30 + g < 10000 by omega)]
        exact ⟨vp_in_nI (by omega) (by decide), i1, nm_e (nm_r (nI_1 k) (go _ fe.symm))⟩
    rw [wX_renameCalls_16]
    refine ⟨vp_in_nI (by omega) (by decide), ?_⟩
    rw [nI_c (show 30 + m < 10000 by omega), l1]
    refine br_f (nI_ge (by omega) (by omega)) (nm_r (nI_a24 (30 + m) k) ⟨i1, ?_⟩)
    rw [nI_c (show 24 * (30 + m) + k < 10000 by omega)]
    refine br_c (fun o2 => call (Or.inl o2)) (fun o2 => ⟨i1, br_c (fun o3 => call (Or.inr o3)) (fun o3 => nm_r (nI_1 k) (ih (k + 1) f N (by omega) (by omega) a1 (fun j hj => a2 j (by omega)) a3 (fun k' hk' => ?_)))⟩)
    by_cases w : k' = k
    · subst w
      rw [ne]
      unfold fv_v
      rw [if_neg (fun z => z.elim o2 o3)]
    · exact a4 k' (by omega)
theorem xC_v (T : tp_p C M R x_isInterfaceClass x_ancestorsOf x_interfacesOf x_chainOf y_parent y_many x_homeOf x_ruleKind x_ruleClasses x_ruleNames x_formOf x_nameOf x_lengthOf y_isAbstract y_name y_length x_opOf x_classOf x_numberOf x_sourceMethod x_sourceLine x_callLine y_op y_first y_second) (hM : x_methodCount = nI M) (hL : (∀ m, m < M → x_lengthOf (30 + m) = nI (hq_t (x_lengthOf (30 + m))) ∧ hq_t (x_lengthOf (30 + m)) ≤ 24)) (hc : (∀ m k, m < M → k < hq_t (x_lengthOf (30 + m)) → (x_opOf (24 * (30 + m) + k) = 2 ∨ x_opOf (24 * (30 + m) + k) = 3) → ∃ c, c < C ∧ x_classOf (24 * (30 + m) + k) = nI c)) {post : SX → Prop}
    (K : ∀ N, (∀ j, j < 720 → N j = x_numberOf j) → (∀ m k, m < M → k < hq_t (x_lengthOf (30 + m)) → N (24 * (30 + m) + k) = fv_v (fo_v M x_ancestorsOf x_chainOf x_homeOf y_name) x_opOf x_classOf x_nameOf x_numberOf (24 * (30 + m) + k)) → post (x_classCount, x_methodCount, x_ruleCount, x_isBuilt, x_faultPlace, x_namedClasses, x_madeClasses, x_namedMethods, x_liveMethods, x_depth, x_stepCount, x_outCount, x_traceCount, x_isInterfaceClass, x_chainOf, x_interfacesOf, x_ancestorsOf, x_homeOf, x_formOf, x_nameOf, x_lengthOf, x_opOf, x_classOf, N, x_sourceMethod, x_sourceLine, x_callLine, x_ruleKind, x_ruleClasses, x_ruleNames, x_newNumber, x_familyOf, x_sightOf, x_frameRow, x_frameLine, x_frameHeld, x_outInts, x_traceMethod, x_traceLine)) : wpX_renameCalls post (x_classCount, x_methodCount, x_ruleCount, x_isBuilt, x_faultPlace, x_namedClasses, x_madeClasses, x_namedMethods, x_liveMethods, x_depth, x_stepCount, x_outCount, x_traceCount, x_isInterfaceClass, x_chainOf, x_interfacesOf, x_ancestorsOf, x_homeOf, x_formOf, x_nameOf, x_lengthOf, x_opOf, x_classOf, x_numberOf, x_sourceMethod, x_sourceLine, x_callLine, x_ruleKind, x_ruleClasses, x_ruleNames, x_newNumber, x_familyOf, x_sightOf, x_frameRow, x_frameLine, x_frameHeld, x_outInts, x_traceMethod, x_traceLine) := by
  have h30 := T.2.2.1.1
  have lo : ∀ q m f N, m + q = M → q < f → (∀ j, j < 720 → N j = x_numberOf j) → (∀ j, 24 * (30 + m) ≤ j → N j = x_numberOf j) →
      (∀ m' k', m' < m → k' < hq_t (x_lengthOf (30 + m')) → N (24 * (30 + m') + k') = fv_v (fo_v M x_ancestorsOf x_chainOf x_homeOf y_name) x_opOf x_classOf x_nameOf x_numberOf (24 * (30 + m') + k')) → wX_renameCalls_3 post x_classCount x_methodCount x_ruleCount x_isBuilt x_faultPlace x_namedClasses x_madeClasses x_namedMethods x_liveMethods x_depth x_stepCount x_outCount x_traceCount f (nI (30 + m)) x_isInterfaceClass x_chainOf x_interfacesOf x_ancestorsOf x_homeOf x_formOf x_nameOf x_lengthOf x_opOf x_classOf N x_sourceMethod x_sourceLine x_callLine x_ruleKind x_ruleClasses x_ruleNames x_newNumber x_familyOf x_sightOf x_frameRow x_frameLine x_frameHeld x_outInts x_traceMethod x_traceLine := by
    intro q
    induction q with
    | zero =>
      intro m f N e hf a1 a2 a3
      obtain ⟨f, rfl⟩ : ∃ q, f = q + 1 := ⟨f - 1, by omega⟩
      have e : m = M := by omega
      subst e
      rw [wX_renameCalls_3]
      exact br_t (by rw [hM, nI_b30]; exact nI_le (by omega) (by omega)) (K N a1 a3)
    | succ q ih =>
      intro m f N e hf a1 a2 a3
      obtain ⟨f, rfl⟩ : ∃ q, f = q + 1 := ⟨f - 1, by omega⟩
      rw [wX_renameCalls_3]
      refine br_f (by rw [hM, nI_b30]; exact nI_ge (by omega) (by omega)) ⟨hq_t (x_lengthOf (30 + m)) + 1, ?_⟩
      exact xC_i T hM hL hc (by omega) (fun N' _ b1 b2 b3 => ih (m + 1) f N' (by omega) (by omega) b1 b2 b3) (hq_t (x_lengthOf (30 + m))) 0 _ N (by omega) (by omega) a1 (fun j hj => a2 j (by omega)) a3 (fun k' hk' => by omega)
  unfold wpX_renameCalls
  exact ⟨M + 1, lo M 0 (M + 1) _ (by omega) (by omega) (fun _ _ => rfl) (fun _ _ => rfl) (fun m' k' hm' => by omega)⟩
end
