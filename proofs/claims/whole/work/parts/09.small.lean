/-! ===== the small methods: bits, descent, names ===== -/
theorem nt_t {b : Bool} (h : ¬ ¬ b = true) : b = true := Decidable.byContradiction h
theorem br_0 {A B : Prop} (a : A) : ((0 : Int32) = 0 → A) ∧ (¬ (0 : Int32) = 0 → B) := br_t rfl a
theorem br_1 {A B : Prop} (b : B) : ((1 : Int32) = 0 → A) ∧ (¬ (1 : Int32) = 0 → B) := br_f (by decide) b
theorem xh_p {post : Int32 → Prop} {s : Int32} {k : Nat} (hk : k < 32) (t : bt s k = true → post 1) (f : ¬ bt s k = true → post 0) : wpX_hasBit post s (nI k) := by
  unfold wpX_hasBit
  exact ek_if (bq_0 s hk) f (fun z => t (nt_t z))
theorem xh_b {A B : Prop} {s : Int32} {k : Nat} (hk : k < 32) (t : bt s k = true → B) (f : ¬ bt s k = true → A) : wpX_hasBit (fun r => (r = 0 → A) ∧ (¬ r = 0 → B)) s (nI k) :=
  xh_p hk (fun z => br_1 (t z)) (fun z => br_0 (f z))
theorem yb_p {post : Int32 → Prop} {s : Int32} {k : Nat} (hk : k < 32) (t : bt s k = true → post 1) (f : ¬ bt s k = true → post 0) : wpY_bit post s (nI k) := by
  unfold wpY_bit
  exact ek_if (bq_t s hk) t f
theorem yb_b {A B : Prop} {s : Int32} {k : Nat} (hk : k < 32) (t : bt s k = true → B) (f : ¬ bt s k = true → A) : wpY_bit (fun r => (r = 0 → A) ∧ (¬ r = 0 → B)) s (nI k) :=
  yb_p hk (fun z => br_1 (t z)) (fun z => br_0 (f z))
theorem nI_a30 (w m : Nat) : nI w * 30 + nI m = nI (30 * w + m) := by
  show nI w * nI 30 + nI m = _
  rw [pk_mul, nI_add, Nat.mul_comm]
theorem nI_b30 (m : Nat) : 30 + nI m = nI (30 + m) := nI_add 30 m
theorem nI_a24 (w m : Nat) : nI w * 24 + nI m = nI (24 * w + m) := by
  show nI w * nI 24 + nI m = _
  rw [pk_mul, nI_add, Nat.mul_comm]
theorem nI_a6 (w m : Nat) : 6 * nI w + nI m = nI (6 * w + m) := by
  show nI 6 * nI w + nI m = _
  rw [pk_mul, nI_add]
theorem nI_c {n : Nat} (h : n < 10000) : (nI n).toNatClampNeg = n := nI_clamp (by omega)
theorem sc_fp {p : Nat → Bool} {n : Nat} (h : p n = true) (e : sc_f p n = none) : sc_f p (n + 1) = some n := by
  rw [sc_fs, e]; exact if_pos h
theorem sc_fk {p : Nat → Bool} {n m : Nat} (e : sc_f p n = some m) : sc_f p (n + 1) = some m := by
  rw [sc_fs, e]
theorem sc_fq {p : Nat → Bool} {n : Nat} (h : ¬ p n = true) : sc_f p (n + 1) = sc_f p n := by
  cases e : sc_f p n with
  | none => rw [sc_fs, e]; exact if_neg h
  | some m => exact sc_fk e
theorem sc_lp {p : Nat → Bool} {n : Nat} (h : p n = true) : sc_l p (n + 1) = some n := by rw [sc_ls]; exact if_pos h
theorem sc_lq {p : Nat → Bool} {n : Nat} (h : ¬ p n = true) : sc_l p (n + 1) = sc_l p n := by rw [sc_ls]; exact if_neg h
theorem sc_fo {p : Nat → Bool} {n : Nat} (h : p n = true) (hn : n < 2 ^ 31) (y : oI (sc_f p n) = -1) : oI (sc_f p (n + 1)) = nI n := by
  cases e : sc_f p n with
  | none => rw [sc_fp h e]; rfl
  | some m =>
    rw [e] at y
    have := (sc_fe e).1
    exact absurd y (oI_n (by omega))
theorem sc_fo' {p : Nat → Bool} {n : Nat} (y : ¬ oI (sc_f p n) = -1) : oI (sc_f p (n + 1)) = oI (sc_f p n) := by
  cases e : sc_f p n with
  | none => rw [e] at y; exact absurd rfl y
  | some m => rw [sc_fk e]
section
variable {x_classCount x_methodCount x_ruleCount x_isBuilt x_faultPlace x_namedClasses x_madeClasses x_namedMethods x_liveMethods x_depth x_stepCount x_outCount x_traceCount : Int32} {x_isInterfaceClass x_chainOf x_interfacesOf x_ancestorsOf x_homeOf x_formOf x_nameOf x_lengthOf x_opOf x_classOf x_numberOf x_sourceMethod x_sourceLine x_callLine x_ruleKind x_ruleClasses x_ruleNames x_newNumber x_familyOf x_sightOf x_frameRow x_frameLine x_frameHeld x_outInts x_traceMethod x_traceLine : Nat → Int32}
theorem xd_b {A B : Prop} {c d : Nat} (hc : c < 10) (hd : d < 32) (t : bt (x_ancestorsOf c) d = true → B) (f : ¬ bt (x_ancestorsOf c) d = true → A) :
    wpX_descends (fun r => (r = 0 → A) ∧ (¬ r = 0 → B)) (x_classCount, x_methodCount, x_ruleCount, x_isBuilt, x_faultPlace, x_namedClasses, x_madeClasses, x_namedMethods, x_liveMethods, x_depth, x_stepCount, x_outCount, x_traceCount, x_isInterfaceClass, x_chainOf, x_interfacesOf, x_ancestorsOf, x_homeOf, x_formOf, x_nameOf, x_lengthOf, x_opOf, x_classOf, x_numberOf, x_sourceMethod, x_sourceLine, x_callLine, x_ruleKind, x_ruleClasses, x_ruleNames, x_newNumber, x_familyOf, x_sightOf, x_frameRow, x_frameLine, x_frameHeld, x_outInts, x_traceMethod, x_traceLine) (nI c) (nI d) := by
  unfold wpX_descends
  dsimp only
  rw [nI_c (by omega)]
  exact ⟨vp_in_nI hc (by decide), ek_if (bq_0 _ hd) (fun z => br_0 (f z)) (fun z => br_1 (t (nt_t z)))⟩
theorem xb_b {A B : Prop} {w m : Nat} {n : Int32} (hw : w < 2) (hm : m < 30) (t : ¬ x_formOf (30 * w + m) = 0 → x_nameOf (30 * w + m) = n → B)
    (f : ¬ (¬ x_formOf (30 * w + m) = 0 ∧ x_nameOf (30 * w + m) = n) → A) : wpX_bears (fun r => (r = 0 → A) ∧ (¬ r = 0 → B)) (x_classCount, x_methodCount, x_ruleCount, x_isBuilt, x_faultPlace, x_namedClasses, x_madeClasses, x_namedMethods, x_liveMethods, x_depth, x_stepCount, x_outCount, x_traceCount, x_isInterfaceClass, x_chainOf, x_interfacesOf, x_ancestorsOf, x_homeOf, x_formOf, x_nameOf, x_lengthOf, x_opOf, x_classOf, x_numberOf, x_sourceMethod, x_sourceLine, x_callLine, x_ruleKind, x_ruleClasses, x_ruleNames, x_newNumber, x_familyOf, x_sightOf, x_frameRow, x_frameLine, x_frameHeld, x_outInts, x_traceMethod, x_traceLine) (nI w) (nI m) n := by
  unfold wpX_bears
  dsimp only
  refine nm_r (nI_a30 w m) ?_
  rw [nI_c (by omega)]
  refine ⟨vp_in_nI (by omega) (by decide), br_c (fun z => br_0 (f (fun y => y.1 z))) (fun z => ⟨vp_in_nI (by omega) (by decide), br_c (fun y => br_1 (t z y)) (fun y => br_0 (f (fun x => y x.2)))⟩)⟩
/-- what X's search gives -/
theorem xf_l {post : Int32 → Prop} {C M w c : Nat} {n : Int32} (hC : C ≤ 10) (g : mh_ok C M x_homeOf) (hw : w < 2) (hc : c < C) (hs : ∀ i, bt (x_chainOf c) i = true → bt (x_ancestorsOf c) i = true)
    (b : Nat → Bool) (hb : ∀ m, m < M → (b m = true ↔ ¬ x_formOf (30 * w + m) = 0 ∧ x_nameOf (30 * w + m) = n)) (hM : x_methodCount = nI M)
    (hp : post (oI (fd_v M x_ancestorsOf x_chainOf x_homeOf b c))) :
    ∀ k i f, i + k = M → k < f → wX_find_9 post (nI w) (nI c) n x_classCount x_methodCount x_ruleCount x_isBuilt x_faultPlace x_namedClasses x_madeClasses x_namedMethods x_liveMethods x_depth x_stepCount x_outCount x_traceCount x_isInterfaceClass x_chainOf x_interfacesOf x_ancestorsOf x_homeOf x_formOf x_nameOf x_lengthOf x_opOf x_classOf x_numberOf x_sourceMethod x_sourceLine x_callLine x_ruleKind x_ruleClasses x_ruleNames x_newNumber x_familyOf x_sightOf x_frameRow x_frameLine x_frameHeld x_outInts x_traceMethod x_traceLine f (oI (sc_l (fun m => b m && bt (x_chainOf c) (hq_t (x_homeOf m))) i)) (oI (sc_f (fun m => b m && bt (x_ancestorsOf c) (hq_t (x_homeOf m))) i)) (nI i) := by
  have h30 := g.1
  intro k
  induction k with
  | zero =>
    intro i f e hf
    obtain ⟨f, rfl⟩ : ∃ q, f = q + 1 := ⟨f - 1, by omega⟩
    have e : i = M := by omega
    subst e
    rw [wX_find_9, hM]
    refine br_t (nI_le (Nat.le_refl _) (by omega)) ?_
    unfold fd_v at hp
    cases h : sc_l (fun m => b m && bt (x_chainOf c) (hq_t (x_homeOf m))) i with
    | none => rw [h] at hp; exact br_t rfl hp
    | some m =>
      rw [h] at hp
      have := (sc_le h).1
      exact br_f (oI_n (by omega)) hp
  | succ k ih =>
    intro i f e hf
    obtain ⟨f, rfl⟩ : ∃ q, f = q + 1 := ⟨f - 1, by omega⟩
    have nx := ih (i + 1) f (by omega) (by omega)
    have ho := mh_h g hC (m := i) (by omega)
    rw [wX_find_9]
    refine br_f (by rw [hM]; exact nI_ge (by omega) (by omega)) ?_
    refine xb_b hw (by omega) (fun y1 y2 => ?_) (fun y => ?_)
    · have bi : b i = true := (hb i (by omega)).mpr ⟨y1, y2⟩
      refine ⟨vp_in_nI (by omega) (by decide), ?_⟩
      rw [nI_c (by omega), ho.1]
      refine xd_b (by omega) (by omega) (fun z => ?_) (fun z => ?_)
      · have key : ∀ zz, zz = oI (sc_f (fun m => b m && bt (x_ancestorsOf c) (hq_t (x_homeOf m))) (i + 1)) →
            wX_find_57 post (wX_find_9 post (nI w) (nI c) n x_classCount x_methodCount x_ruleCount x_isBuilt x_faultPlace x_namedClasses x_madeClasses x_namedMethods x_liveMethods x_depth x_stepCount x_outCount x_traceCount x_isInterfaceClass x_chainOf x_interfacesOf x_ancestorsOf x_homeOf x_formOf x_nameOf x_lengthOf x_opOf x_classOf x_numberOf x_sourceMethod x_sourceLine x_callLine x_ruleKind x_ruleClasses x_ruleNames x_newNumber x_familyOf x_sightOf x_frameRow x_frameLine x_frameHeld x_outInts x_traceMethod x_traceLine f) (nI w) (nI c) n (oI (sc_l (fun m => b m && bt (x_chainOf c) (hq_t (x_homeOf m))) i)) (nI i) zz x_classCount x_methodCount x_ruleCount x_isBuilt x_faultPlace x_namedClasses x_madeClasses x_namedMethods x_liveMethods x_depth x_stepCount x_outCount x_traceCount x_isInterfaceClass x_chainOf x_interfacesOf x_ancestorsOf x_homeOf x_formOf x_nameOf x_lengthOf x_opOf x_classOf x_numberOf x_sourceMethod x_sourceLine x_callLine x_ruleKind x_ruleClasses x_ruleNames x_newNumber x_familyOf x_sightOf x_frameRow x_frameLine x_frameHeld x_outInts x_traceMethod x_traceLine := by
          intro zz ez
          unfold wX_find_57
          rw [nI_c (show c < 10000 by omega), nI_c (show i < 10000 by omega), ho.1, ez]
          refine ⟨vp_in_nI (by omega) (by decide), vp_in_nI (by omega) (by decide), ek_if (bq_0 _ (by omega)) (fun y => nm_r (nI_1 i) ?_) (fun y => nm_r (nI_1 i) ?_)⟩
          · rw [sc_lq (fun q => y (bb_a.mp q).2)] at nx; exact nx
          · rw [sc_lp (bb_a.mpr ⟨bi, nt_t y⟩)] at nx; exact nx
        have pi : (fun m => b m && bt (x_ancestorsOf c) (hq_t (x_homeOf m))) i = true := bb_a.mpr ⟨bi, z⟩
        exact br_c (fun y => key _ (sc_fo pi (by omega) y).symm) (fun y => key _ (sc_fo' y).symm)
      · rw [sc_lq (fun q => z (hs _ (bb_a.mp q).2)), sc_fq (fun q => z (bb_a.mp q).2)] at nx
        exact nm_r (nI_1 i) nx
    · have bi : ¬ b i = true := fun q => y ((hb i (by omega)).mp q)
      rw [sc_lq (fun q => bi (bb_a.mp q).1), sc_fq (fun q => bi (bb_a.mp q).1)] at nx
      exact nm_r (nI_1 i) nx
/-- X's search in the told or the new program, as a value -/
theorem xf_v {post : Int32 → Prop} {C M w c : Nat} {n : Int32} (hC : C ≤ 10) (g : mh_ok C M x_homeOf) (hw : w < 2) (hc : c < C) (hs : ∀ i, bt (x_chainOf c) i = true → bt (x_ancestorsOf c) i = true)
    (b : Nat → Bool) (hb : ∀ m, m < M → (b m = true ↔ ¬ x_formOf (30 * w + m) = 0 ∧ x_nameOf (30 * w + m) = n)) (hM : x_methodCount = nI M)
    (hp : post (oI (fd_v M x_ancestorsOf x_chainOf x_homeOf b c))) : wpX_find post (x_classCount, x_methodCount, x_ruleCount, x_isBuilt, x_faultPlace, x_namedClasses, x_madeClasses, x_namedMethods, x_liveMethods, x_depth, x_stepCount, x_outCount, x_traceCount, x_isInterfaceClass, x_chainOf, x_interfacesOf, x_ancestorsOf, x_homeOf, x_formOf, x_nameOf, x_lengthOf, x_opOf, x_classOf, x_numberOf, x_sourceMethod, x_sourceLine, x_callLine, x_ruleKind, x_ruleClasses, x_ruleNames, x_newNumber, x_familyOf, x_sightOf, x_frameRow, x_frameLine, x_frameHeld, x_outInts, x_traceMethod, x_traceLine) (nI w) (nI c) n := by
  unfold wpX_find
  exact ⟨M + 1, xf_l hC g hw hc hs b hb hM hp M 0 (M + 1) (by omega) (by omega)⟩
/-- the first of one home and name -/
theorem xm_l {post : Int32 → Prop} {M w c : Nat} {n : Int32} (h30 : M ≤ 30) (hw : w < 2) (hc : c < 10) (ho : ∀ m, m < M → x_homeOf m = nI (hq_t (x_homeOf m)) ∧ hq_t (x_homeOf m) < 10)
    (b : Nat → Bool) (hb : ∀ m, m < M → (b m = true ↔ ¬ x_formOf (30 * w + m) = 0 ∧ x_nameOf (30 * w + m) = n)) (hM : x_methodCount = nI M)
    (hp : post (oI (dc_v M x_homeOf b c))) :
    ∀ k i f, i + k = M → k < f → (∀ j, j < i → ¬ (decide (hq_t (x_homeOf j) = c) && b j) = true) → wX_methodIn_3 post (nI w) (nI c) n x_classCount x_methodCount x_ruleCount x_isBuilt x_faultPlace x_namedClasses x_madeClasses x_namedMethods x_liveMethods x_depth x_stepCount x_outCount x_traceCount x_isInterfaceClass x_chainOf x_interfacesOf x_ancestorsOf x_homeOf x_formOf x_nameOf x_lengthOf x_opOf x_classOf x_numberOf x_sourceMethod x_sourceLine x_callLine x_ruleKind x_ruleClasses x_ruleNames x_newNumber x_familyOf x_sightOf x_frameRow x_frameLine x_frameHeld x_outInts x_traceMethod x_traceLine f (nI i) := by
  intro k
  induction k with
  | zero =>
    intro i f e hf no
    obtain ⟨f, rfl⟩ : ∃ q, f = q + 1 := ⟨f - 1, by omega⟩
    have e : i = M := by omega
    subst e
    rw [wX_methodIn_3, hM]
    refine br_t (nI_le (Nat.le_refl _) (by omega)) ?_
    unfold dc_v at hp
    rw [sc_fN no] at hp
    exact hp
  | succ k ih =>
    intro i f e hf no
    obtain ⟨f, rfl⟩ : ∃ q, f = q + 1 := ⟨f - 1, by omega⟩
    have nx : ¬ (decide (hq_t (x_homeOf i) = c) && b i) = true → wX_methodIn_3 post (nI w) (nI c) n x_classCount x_methodCount x_ruleCount x_isBuilt x_faultPlace x_namedClasses x_madeClasses x_namedMethods x_liveMethods x_depth x_stepCount x_outCount x_traceCount x_isInterfaceClass x_chainOf x_interfacesOf x_ancestorsOf x_homeOf x_formOf x_nameOf x_lengthOf x_opOf x_classOf x_numberOf x_sourceMethod x_sourceLine x_callLine x_ruleKind x_ruleClasses x_ruleNames x_newNumber x_familyOf x_sightOf x_frameRow x_frameLine x_frameHeld x_outInts x_traceMethod x_traceLine f (nI (i + 1)) := fun y =>
      ih (i + 1) f (by omega) (by omega) (fun j hj => by
        rcases Nat.lt_or_ge j i with z | z
        · exact no j z
        · have : j = i := by omega
          subst this; exact y)
    have hi := ho i (by omega)
    rw [wX_methodIn_3]
    refine br_f (by rw [hM]; exact nI_ge (by omega) (by omega)) ⟨vp_in_nI (by omega) (by decide), ?_⟩
    rw [nI_c (by omega), hi.1]
    refine pk_eq (hq_t (x_homeOf i)) c (fun z => ?_) (fun z => nm_r (nI_1 i) (nx (fun q => z (of_decide_eq_true (bb_a.mp q).1))))
    refine xb_b hw (by omega) (fun y1 y2 => ?_) (fun y => nm_r (nI_1 i) (nx (fun q => y ((hb i (by omega)).mp (bb_a.mp q).2))))
    unfold dc_v at hp
    rw [sc_fI (m := i) (by omega) (bb_a.mpr ⟨decide_eq_true z, (hb i (by omega)).mpr ⟨y1, y2⟩⟩) no] at hp
    exact hp
theorem xm_v {post : Int32 → Prop} {M w c : Nat} {n : Int32} (h30 : M ≤ 30) (hw : w < 2) (hc : c < 10) (ho : ∀ m, m < M → x_homeOf m = nI (hq_t (x_homeOf m)) ∧ hq_t (x_homeOf m) < 10)
    (b : Nat → Bool) (hb : ∀ m, m < M → (b m = true ↔ ¬ x_formOf (30 * w + m) = 0 ∧ x_nameOf (30 * w + m) = n)) (hM : x_methodCount = nI M)
    (hp : post (oI (dc_v M x_homeOf b c))) : wpX_methodIn post (x_classCount, x_methodCount, x_ruleCount, x_isBuilt, x_faultPlace, x_namedClasses, x_madeClasses, x_namedMethods, x_liveMethods, x_depth, x_stepCount, x_outCount, x_traceCount, x_isInterfaceClass, x_chainOf, x_interfacesOf, x_ancestorsOf, x_homeOf, x_formOf, x_nameOf, x_lengthOf, x_opOf, x_classOf, x_numberOf, x_sourceMethod, x_sourceLine, x_callLine, x_ruleKind, x_ruleClasses, x_ruleNames, x_newNumber, x_familyOf, x_sightOf, x_frameRow, x_frameLine, x_frameHeld, x_outInts, x_traceMethod, x_traceLine) (nI w) (nI c) n := by
  unfold wpX_methodIn
  exact ⟨M + 1, xm_l h30 hw hc ho b hb hM hp M 0 (M + 1) (by omega) (by omega) (fun j hj => by omega)⟩
end
