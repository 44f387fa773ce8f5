/-! ===== X's inlining ===== -/
theorem in_il {C M : Nat} {anc chn hom yabs yname ylen yop yfi yse inl : Nat → Int32} {D Lv : Int32} (h6 : ∀ m, m < M → hq_t (ylen m) ≤ 6)
    (h : ∀ m k, m < M → k < 6 → il_p C M anc chn hom yabs yname ylen yop yfi yse D Lv m k (inl (6 * m + k))) : in_ok M inl ylen := fun m x hm hx => by
  have := h6 m hm
  rcases h m x hm (by omega) with ⟨e, _⟩ | ⟨t, e, i⟩
  · exact Or.inl e
  · exact Or.inr ⟨t, i.2.2.1, e, i.2.2.2.2.2.1⟩
theorem tg_u {C : Nat} {anc : Nat → Int32} {D : Int32} {F : Nat → Int32 → Option Nat} {o c n : Int32} {t s : Nat} (tt : tg_p C anc D F o c n t) (hs : tg_p C anc D F o c n s) : t = s := by
  rcases tt with ⟨p1, p2⟩ | ⟨p1, ⟨d, d1, d2, d3⟩, p2⟩
  · rcases hs with ⟨r1, r2⟩ | ⟨r1, _, r2⟩
    · rw [p2] at r2; simpa using r2
    · rw [p1] at r1; exact absurd r1 (by decide)
  · rcases hs with ⟨r1, r2⟩ | ⟨r1, _, r2⟩
    · rw [p1] at r1; exact absurd r1 (by decide)
    · have x := p2 d d1 d2 d3
      rw [r2 d d1 d2 d3] at x
      simpa using x.symm
section
variable {x_classCount x_methodCount x_ruleCount x_isBuilt x_faultPlace x_namedClasses x_madeClasses x_namedMethods x_liveMethods x_depth x_stepCount x_outCount x_traceCount : Int32} {x_isInterfaceClass x_chainOf x_interfacesOf x_ancestorsOf x_homeOf x_formOf x_nameOf x_lengthOf x_opOf x_classOf x_numberOf x_sourceMethod x_sourceLine x_callLine x_ruleKind x_ruleClasses x_ruleNames x_newNumber x_familyOf x_sightOf x_frameRow x_frameLine x_frameHeld x_outInts x_traceMethod x_traceLine : Nat → Int32} {y_parent y_many y_isAbstract y_name y_length y_op y_first y_second : Nat → Int32} {C M R : Nat} {inl : Nat → Int32} {nv : Nat → Nat → Int32} {L O P N S U A : Nat → Int32}
theorem xe_l (hi : in_ok M inl y_length) {post : SX → Prop} {m k t : Nat} (hm : m < M) (hk : k < hq_t (y_length m)) (ht : t < M) (l3 : hq_t (y_length t) ≤ 3) (ho : ∀ i, i < hq_t (y_length t) → y_op (6 * t + i) = 0 ∨ y_op (6 * t + i) = 5)
    (K : ∀ L O P N S U A i, i = hq_t (y_length t) → pv_p C M R x_isInterfaceClass x_ancestorsOf x_interfacesOf x_chainOf y_parent y_many x_homeOf x_ruleKind x_ruleClasses x_ruleNames x_formOf x_nameOf y_isAbstract y_name y_length y_op y_first y_second inl nv m k L O P N S U A → L (30 + m) = nI (po_n inl y_length m k + 1 + i) → (O (24 * (30 + m) + po_n inl y_length m k) = 6 ∧ P (24 * (30 + m) + po_n inl y_length m k) = (if O (24 * m + k) = 3 then -1 else P (24 * m + k)) ∧ N (24 * (30 + m) + po_n inl y_length m k) = 0 ∧ S (24 * (30 + m) + po_n inl y_length m k) = nI m ∧ U (24 * (30 + m) + po_n inl y_length m k) = nI k ∧ A (24 * (30 + m) + po_n inl y_length m k) = -1 ∧ ∀ j, j < i → O (24 * (30 + m) + po_n inl y_length m k + 1 + j) = O (24 * t + j) ∧ P (24 * (30 + m) + po_n inl y_length m k + 1 + j) = -1 ∧ N (24 * (30 + m) + po_n inl y_length m k + 1 + j) = N (24 * t + j) ∧ S (24 * (30 + m) + po_n inl y_length m k + 1 + j) = nI t ∧ U (24 * (30 + m) + po_n inl y_length m k + 1 + j) = nI j ∧ A (24 * (30 + m) + po_n inl y_length m k + 1 + j) = nI k) → post (x_classCount, x_methodCount, x_ruleCount, x_isBuilt, x_faultPlace, x_namedClasses, x_madeClasses, x_namedMethods, x_liveMethods, x_depth, x_stepCount, x_outCount, x_traceCount, x_isInterfaceClass, x_chainOf, x_interfacesOf, x_ancestorsOf, x_homeOf, x_formOf, x_nameOf, L, O, P, N, S, U, A, x_ruleKind, x_ruleClasses, x_ruleNames, x_newNumber, x_familyOf, x_sightOf, x_frameRow, x_frameLine, x_frameHeld, x_outInts, x_traceMethod, x_traceLine)) :
    ∀ q i f L O P N S U A, i + q = hq_t (y_length t) → q < f → pv_p C M R x_isInterfaceClass x_ancestorsOf x_interfacesOf x_chainOf y_parent y_many x_homeOf x_ruleKind x_ruleClasses x_ruleNames x_formOf x_nameOf y_isAbstract y_name y_length y_op y_first y_second inl nv m k L O P N S U A → L (30 + m) = nI (po_n inl y_length m k + 1 + i) → (O (24 * (30 + m) + po_n inl y_length m k) = 6 ∧ P (24 * (30 + m) + po_n inl y_length m k) = (if O (24 * m + k) = 3 then -1 else P (24 * m + k)) ∧ N (24 * (30 + m) + po_n inl y_length m k) = 0 ∧ S (24 * (30 + m) + po_n inl y_length m k) = nI m ∧ U (24 * (30 + m) + po_n inl y_length m k) = nI k ∧ A (24 * (30 + m) + po_n inl y_length m k) = -1 ∧ ∀ j, j < i → O (24 * (30 + m) + po_n inl y_length m k + 1 + j) = O (24 * t + j) ∧ P (24 * (30 + m) + po_n inl y_length m k + 1 + j) = -1 ∧ N (24 * (30 + m) + po_n inl y_length m k + 1 + j) = N (24 * t + j) ∧ S (24 * (30 + m) + po_n inl y_length m k + 1 + j) = nI t ∧ U (24 * (30 + m) + po_n inl y_length m k + 1 + j) = nI j ∧ A (24 * (30 + m) + po_n inl y_length m k + 1 + j) = nI k) →
      wX_enterTarget_66 post (nI (24 * m + k)) (nI (30 + m)) (nI t) (nI (hq_t (y_length t))) f (nI i) x_classCount x_methodCount x_ruleCount x_isBuilt x_faultPlace x_namedClasses x_madeClasses x_namedMethods x_liveMethods x_depth x_stepCount x_outCount x_traceCount x_isInterfaceClass x_chainOf x_interfacesOf x_ancestorsOf x_homeOf x_formOf x_nameOf L O P N S U A x_ruleKind x_ruleClasses x_ruleNames x_newNumber x_familyOf x_sightOf x_frameRow x_frameLine x_frameHeld x_outInts x_traceMethod x_traceLine := by
  intro q
  induction q with
  | zero =>
    intro i f L O P N S U A e hf z l h
    obtain ⟨f, rfl⟩ : ∃ q, f = q + 1 := ⟨f - 1, by omega⟩
    rw [wX_enterTarget_66]
    exact br_t (nI_le (by omega) (by omega)) (K L O P N S U A i (by omega) z l h)
  | succ q ih =>
    intro i f L O P N S U A e hf z l h
    obtain ⟨f, rfl⟩ : ∃ q, f = q + 1 := ⟨f - 1, by omega⟩
    have T := z.1
    have h30 := T.2.2.1.1
    have l6 := (tp_len T hm).2.2
    have p24 := po_24 hi h30 hm (x := k) (by omega)
    have p20 := ps_4 (gy_4 hi h30 hm) k
    have p20 : po_n inl y_length m k ≤ 4 * k := p20
    obtain ⟨o1, _, _, _, _, _, _, _, _, _, u1, _⟩ := T.2.2.2.2.2.1 m k hm hk
    obtain ⟨o2, o6, eo, eyo, _, ecl, _, _, _, esm, esl, _⟩ := T.2.2.2.2.2.1 t i ht (by omega)
    have oo : ¬ (1 ≤ o2 ∧ o2 ≤ 4) := by
      rcases ho i (by omega) with w | w
      · rw [eyo] at w; have := (nI_eq (a := o2) (b := 0) (by omega) (by omega)).mp w; omega
      · rw [eyo] at w; have := (nI_eq (a := o2) (b := 5) (by omega) (by omega)).mp w; omega
    have eB : 24 * (30 + m) + po_n inl y_length m k + 1 + i = 24 * (30 + m) + (po_n inl y_length m k + 1 + i) := by omega
    rw [wX_enterTarget_66]
    refine br_f (nI_ge (by omega) (by omega)) ⟨vp_in_nI (by omega) (by decide), ?_⟩
    rw [nI_c (by omega), nI_a24, u1]
    refine xy_v (by omega) (by omega) l (by omega) (nm_r (nI_1 i) (ih (i + 1) f _ _ _ _ _ _ _ (by omega) (by omega) (pv_fr hi hm (by omega) z (fun j hj => pk_un (by omega)) (fun j hj => pk_un (by omega)) (fun j hj => pk_un (by omega)) (fun j hj => pk_un (by omega)) (fun j hj => pk_un (by omega)) (fun j hj => pk_un (by omega)) (fun j hj => pk_un (by omega))) ?_ ?_))
    · rw [pk_us]
      exact congrArg nI (by omega)
    · obtain ⟨q1, q2, q3, q4, q5, q6, q7⟩ := h
      refine ⟨?_, ?_, ?_, ?_, ?_, ?_, fun j hj => ?_⟩
      · rw [pk_un (by omega)]; exact q1
      · rw [pk_un (by omega), pk_un (by omega), pk_un (by omega)]; exact q2
      · rw [pk_un (by omega)]; exact q3
      · rw [pk_un (by omega)]; exact q4
      · rw [pk_un (by omega)]; exact q5
      · rw [pk_un (by omega)]; exact q6
      · rcases Nat.lt_or_ge j i with v | v
        · rw [pk_un (by omega), pk_un (by omega), pk_un (by omega), pk_un (by omega), pk_un (by omega), pk_un (by omega), pk_un (by omega), pk_un (by omega)]
          exact q7 j v
        · have : j = i := by omega
          subst this
          rw [eB, pk_us, pk_us, pk_us, pk_us, pk_us, pk_us, pk_un (by omega), pk_un (by omega)]
          exact ⟨rfl, ecl oo, rfl, esm, esl, rfl⟩
/-- a line that is INLINED -/
theorem xe_v (hi : in_ok M inl y_length) {post : SX → Prop} {m k t : Nat} (hm : m < M) (hk : k < hq_t (y_length m)) (ht : t < M) (l3 : hq_t (y_length t) ≤ 3) (ho : ∀ i, i < hq_t (y_length t) → y_op (6 * t + i) = 0 ∨ y_op (6 * t + i) = 5)
    (et : inl (6 * m + k) = nI t) (z : pv_p C M R x_isInterfaceClass x_ancestorsOf x_interfacesOf x_chainOf y_parent y_many x_homeOf x_ruleKind x_ruleClasses x_ruleNames x_formOf x_nameOf y_isAbstract y_name y_length y_op y_first y_second inl nv m k L O P N S U A) (l : L (30 + m) = nI (po_n inl y_length m k))
    (K : ∀ L O P N S U A, pv_p C M R x_isInterfaceClass x_ancestorsOf x_interfacesOf x_chainOf y_parent y_many x_homeOf x_ruleKind x_ruleClasses x_ruleNames x_formOf x_nameOf y_isAbstract y_name y_length y_op y_first y_second inl nv m (k + 1) L O P N S U A → L (30 + m) = nI (po_n inl y_length m (k + 1)) → post (x_classCount, x_methodCount, x_ruleCount, x_isBuilt, x_faultPlace, x_namedClasses, x_madeClasses, x_namedMethods, x_liveMethods, x_depth, x_stepCount, x_outCount, x_traceCount, x_isInterfaceClass, x_chainOf, x_interfacesOf, x_ancestorsOf, x_homeOf, x_formOf, x_nameOf, L, O, P, N, S, U, A, x_ruleKind, x_ruleClasses, x_ruleNames, x_newNumber, x_familyOf, x_sightOf, x_frameRow, x_frameLine, x_frameHeld, x_outInts, x_traceMethod, x_traceLine)) : wpX_enterTarget post (x_classCount, x_methodCount, x_ruleCount, x_isBuilt, x_faultPlace, x_namedClasses, x_madeClasses, x_namedMethods, x_liveMethods, x_depth, x_stepCount, x_outCount, x_traceCount, x_isInterfaceClass, x_chainOf, x_interfacesOf, x_ancestorsOf, x_homeOf, x_formOf, x_nameOf, L, O, P, N, S, U, A, x_ruleKind, x_ruleClasses, x_ruleNames, x_newNumber, x_familyOf, x_sightOf, x_frameRow, x_frameLine, x_frameHeld, x_outInts, x_traceMethod, x_traceLine) (nI (24 * m + k)) (30 + nI m) (nI t) := by
  have T := z.1
  have h30 := T.2.2.1.1
  have l6 := (tp_len T hm).2.2
  obtain ⟨lt1, lt2, _⟩ := tp_len T ht
  have p20 : po_n inl y_length m k ≤ 4 * k := ps_4 (gy_4 hi h30 hm) k
  obtain ⟨o1, _, _, _, _, _, _, _, _, s1, u1, _⟩ := T.2.2.2.2.2.1 m k hm hk
  have nneg : ¬ inl (6 * m + k) < 0 := by rw [et]; exact nI_pos (by omega)
  have hte : hq_t (inl (6 * m + k)) = t := by rw [et]; exact hq_e (by omega)
  have gr := gy_t hk nneg
  rw [hte] at gr
  have K' : ∀ L O P N S U A i, i = hq_t (y_length t) → pv_p C M R x_isInterfaceClass x_ancestorsOf x_interfacesOf x_chainOf y_parent y_many x_homeOf x_ruleKind x_ruleClasses x_ruleNames x_formOf x_nameOf y_isAbstract y_name y_length y_op y_first y_second inl nv m k L O P N S U A → L (30 + m) = nI (po_n inl y_length m k + 1 + i) → (O (24 * (30 + m) + po_n inl y_length m k) = 6 ∧ P (24 * (30 + m) + po_n inl y_length m k) = (if O (24 * m + k) = 3 then -1 else P (24 * m + k)) ∧ N (24 * (30 + m) + po_n inl y_length m k) = 0 ∧ S (24 * (30 + m) + po_n inl y_length m k) = nI m ∧ U (24 * (30 + m) + po_n inl y_length m k) = nI k ∧ A (24 * (30 + m) + po_n inl y_length m k) = -1 ∧ ∀ j, j < i → O (24 * (30 + m) + po_n inl y_length m k + 1 + j) = O (24 * t + j) ∧ P (24 * (30 + m) + po_n inl y_length m k + 1 + j) = -1 ∧ N (24 * (30 + m) + po_n inl y_length m k + 1 + j) = N (24 * t + j) ∧ S (24 * (30 + m) + po_n inl y_length m k + 1 + j) = nI t ∧ U (24 * (30 + m) + po_n inl y_length m k + 1 + j) = nI j ∧ A (24 * (30 + m) + po_n inl y_length m k + 1 + j) = nI k) → post (x_classCount, x_methodCount, x_ruleCount, x_isBuilt, x_faultPlace, x_namedClasses, x_madeClasses, x_namedMethods, x_liveMethods, x_depth, x_stepCount, x_outCount, x_traceCount, x_isInterfaceClass, x_chainOf, x_interfacesOf, x_ancestorsOf, x_homeOf, x_formOf, x_nameOf, L, O, P, N, S, U, A, x_ruleKind, x_ruleClasses, x_ruleNames, x_newNumber, x_familyOf, x_sightOf, x_frameRow, x_frameLine, x_frameHeld, x_outInts, x_traceMethod, x_traceLine) := fun L O P N S U A i ei z l h => by
    subst ei
    obtain ⟨z1, z2, z3, z4⟩ := z
    obtain ⟨q1, q2, q3, q4, q5, q6, q7⟩ := h
    refine K L O P N S U A ⟨z1, z2, fun x hx => ?_, z4⟩ ?_
    · rcases Nat.lt_or_ge x k with v | v
      · exact z3 x v
      · have : x = k := by omega
        subst this
        refine ⟨fun y => absurd y nneg, fun _ => ⟨q1, q2, q3, fun j hj => ?_⟩, q4, q5, q6⟩
        rw [hte] at hj ⊢
        rw [et]
        exact q7 j hj
    · rw [l, po_s, gr]; exact congrArg nI (by omega)
  unfold wpX_enterTarget
  dsimp only
  rw [nI_b30]
  refine ⟨vp_in_nI (by omega) (by decide), ?_⟩
  rw [nI_c (show 30 + m < 10000 by omega), l, nI_a24]
  refine nm_e (xy_v (by omega) (by omega) l (by omega) ?_)
  dsimp only
  have iB : vp_in (nI (24 * (30 + m) + po_n inl y_length m k)) 1440 := vp_in_nI (by omega) (by decide)
  rw [nI_c (show 24 * (30 + m) + po_n inl y_length m k < 10000 by omega), nI_c (show 24 * m + k < 10000 by omega), nI_c (show t < 10000 by omega)]
  refine ⟨iB, nm_e ⟨iB, nm_e ⟨vp_in_nI (by omega) (by decide), ?_⟩⟩⟩
  rw [pk_un (by omega : 24 * m + k ≠ 24 * (30 + m) + po_n inl y_length m k), pk_un (by omega : 24 * m + k ≠ 24 * (30 + m) + po_n inl y_length m k), pk_un (by omega : t ≠ 30 + m), lt1]
  have fr : ∀ (f : Nat → Int32) (v w : Int32) j, j < 24 * (30 + m) + po_n inl y_length m k → upd (upd f (24 * (30 + m) + po_n inl y_length m k) v) (24 * (30 + m) + po_n inl y_length m k) w j = f j := fun f v w j hj => by rw [pk_un (by omega), pk_un (by omega)]
  have fr1 : ∀ (f : Nat → Int32) (v : Int32) j, j < 24 * (30 + m) + po_n inl y_length m k → upd f (24 * (30 + m) + po_n inl y_length m k) v j = f j := fun f v j hj => pk_un (by omega)
  refine br_c (fun c3 => ⟨iB, nm_e ⟨vp_in_nI (by omega) (by decide), nm_e ⟨hq_t (y_length t) + 1, ?_⟩⟩⟩) (fun c3 => ⟨vp_in_nI (by omega) (by decide), nm_e ⟨hq_t (y_length t) + 1, ?_⟩⟩)
  · refine xe_l hi hm hk ht l3 ho K' _ 0 _ _ _ _ _ _ _ _ (Nat.zero_add _) (by omega) (pv_fr hi hm (by omega) z (fun j hj => pk_un (by omega)) (fr _ _ _) (fr _ _ _) (fr _ _ _) (fr1 _ _) (fr1 _ _) (fr1 _ _)) pk_us ⟨pk_us, ?_, pk_us, ?_, ?_, pk_us, fun j hj => by omega⟩
    · rw [pk_us, pk_un (by omega), pk_un (by omega), if_pos c3]
    · rw [pk_us]; exact s1
    · rw [pk_us]; exact u1
  · refine xe_l hi hm hk ht l3 ho K' _ 0 _ _ _ _ _ _ _ _ (Nat.zero_add _) (by omega) (pv_fr hi hm (by omega) z (fun j hj => pk_un (by omega)) (fr _ _ _) (fr1 _ _) (fr _ _ _) (fr1 _ _) (fr1 _ _) (fr1 _ _)) pk_us ⟨pk_us, ?_, pk_us, ?_, ?_, pk_us, fun j hj => by omega⟩
    · rw [pk_us, pk_un (by omega), pk_un (by omega), if_neg c3, pk_un (by omega)]
    · rw [pk_us]; exact s1
    · rw [pk_us]; exact u1
/-- a line that is copied -/
theorem xe_c (hi : in_ok M inl y_length) {post : SX → Prop} {m k : Nat} (hm : m < M) (hk : k < hq_t (y_length m)) (et : inl (6 * m + k) = -1) (z : pv_p C M R x_isInterfaceClass x_ancestorsOf x_interfacesOf x_chainOf y_parent y_many x_homeOf x_ruleKind x_ruleClasses x_ruleNames x_formOf x_nameOf y_isAbstract y_name y_length y_op y_first y_second inl nv m k L O P N S U A) (l : L (30 + m) = nI (po_n inl y_length m k))
    (K : ∀ L O P N S U A, pv_p C M R x_isInterfaceClass x_ancestorsOf x_interfacesOf x_chainOf y_parent y_many x_homeOf x_ruleKind x_ruleClasses x_ruleNames x_formOf x_nameOf y_isAbstract y_name y_length y_op y_first y_second inl nv m (k + 1) L O P N S U A → L (30 + m) = nI (po_n inl y_length m (k + 1)) → post (x_classCount, x_methodCount, x_ruleCount, x_isBuilt, x_faultPlace, x_namedClasses, x_madeClasses, x_namedMethods, x_liveMethods, x_depth, x_stepCount, x_outCount, x_traceCount, x_isInterfaceClass, x_chainOf, x_interfacesOf, x_ancestorsOf, x_homeOf, x_formOf, x_nameOf, L, O, P, N, S, U, A, x_ruleKind, x_ruleClasses, x_ruleNames, x_newNumber, x_familyOf, x_sightOf, x_frameRow, x_frameLine, x_frameHeld, x_outInts, x_traceMethod, x_traceLine)) : wpX_copyInstruction post (x_classCount, x_methodCount, x_ruleCount, x_isBuilt, x_faultPlace, x_namedClasses, x_madeClasses, x_namedMethods, x_liveMethods, x_depth, x_stepCount, x_outCount, x_traceCount, x_isInterfaceClass, x_chainOf, x_interfacesOf, x_ancestorsOf, x_homeOf, x_formOf, x_nameOf, L, O, P, N, S, U, A, x_ruleKind, x_ruleClasses, x_ruleNames, x_newNumber, x_familyOf, x_sightOf, x_frameRow, x_frameLine, x_frameHeld, x_outInts, x_traceMethod, x_traceLine) (nI (24 * m + k)) (30 + nI m) (-1) := by
  have T := z.1
  have h30 := T.2.2.1.1
  have l6 := (tp_len T hm).2.2
  have p20 : po_n inl y_length m k ≤ 4 * k := ps_4 (gy_4 hi h30 hm) k
  obtain ⟨o1, _, _, _, _, _, _, _, _, s1, u1, _⟩ := T.2.2.2.2.2.1 m k hm hk
  have neg : inl (6 * m + k) < 0 := by rw [et]; decide
  have z4 := z.2.2.2
  rw [nI_b30]
  refine xy_v (by omega) (by omega) l (by omega) ?_
  have pv := pv_fr (L' := upd L (30 + m) (nI (po_n inl y_length m k + 1))) (O' := upd O (24 * (30 + m) + po_n inl y_length m k) (O (24 * m + k))) (P' := upd P (24 * (30 + m) + po_n inl y_length m k) (P (24 * m + k))) (N' := upd N (24 * (30 + m) + po_n inl y_length m k) (N (24 * m + k))) (S' := upd S (24 * (30 + m) + po_n inl y_length m k) (S (24 * m + k))) (U' := upd U (24 * (30 + m) + po_n inl y_length m k) (U (24 * m + k))) (A' := upd A (24 * (30 + m) + po_n inl y_length m k) (-1))
    hi hm (Nat.le_of_lt hk) z (fun j hj => pk_un (by omega)) (fun j hj => pk_un (by omega)) (fun j hj => pk_un (by omega)) (fun j hj => pk_un (by omega)) (fun j hj => pk_un (by omega)) (fun j hj => pk_un (by omega)) (fun j hj => pk_un (by omega))
  refine K _ _ _ _ _ _ _ ⟨pv.1, pv.2.1, fun x hx => ?_, pv.2.2.2⟩ ?_
  · rcases Nat.lt_or_ge x k with v | v
    · exact pv.2.2.1 x v
    · have : x = k := by omega
      subst this
      refine ⟨fun _ => ⟨?_, ?_, ?_⟩, fun y => absurd neg y, ?_, ?_, pk_us⟩
      · rw [pk_us, pk_un (by omega)]
      · rw [pk_us, pk_un (by omega)]
      · rw [pk_us]; exact z4 m x hm hk
      · rw [pk_us]; exact s1
      · rw [pk_us]; exact u1
  · rw [pk_us, po_s, gy_1 neg]
end
