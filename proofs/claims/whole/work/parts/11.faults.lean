/-! ===== what is wrong: both sides ===== -/
theorem oI_s (t : Nat) : oI (some t) = nI t := rfl
def ff_r : Option Nat → Int32
  | none => -1
  | some k => nI (8 * (k / 6) + k % 6)
theorem fl_0 {C : Nat} {ifc yabs : Nat → Int32} {F : Nat → Int32 → Option Nat} {o c n : Int32} (h : o = 0 ∨ o = 5) : fl_v C ifc yabs F o c n = 0 := if_pos h
theorem fl_1 {C : Nat} {ifc yabs : Nat → Int32} {F : Nat → Int32 → Option Nat} {o c n : Int32} (h : ¬ (o = 0 ∨ o = 5)) (g : C ≤ hq_t c) : fl_v C ifc yabs F o c n = 1 := by
  unfold fl_v; rw [if_neg h, if_pos g]
theorem fl_2 {C : Nat} {ifc yabs : Nat → Int32} {F : Nat → Int32 → Option Nat} {c n : Int32} (g : ¬ C ≤ hq_t c) : fl_v C ifc yabs F 1 c n = if ifc (hq_t c) = 0 then 0 else 2 := by
  unfold fl_v; rw [if_neg (by decide), if_neg g, if_pos rfl]
theorem fl_4 {C : Nat} {ifc yabs : Nat → Int32} {F : Nat → Int32 → Option Nat} {c n : Int32} (g : ¬ C ≤ hq_t c) : fl_v C ifc yabs F 4 c n = 0 := by
  unfold fl_v; rw [if_neg (by decide), if_neg g, if_neg (by decide), if_pos rfl]
theorem fl_n {C : Nat} {ifc yabs : Nat → Int32} {F : Nat → Int32 → Option Nat} {o c n : Int32} (h : o = 2 ∨ o = 3) (g : ¬ C ≤ hq_t c) (e : F (hq_t c) n = none) : fl_v C ifc yabs F o c n = 3 := by
  unfold fl_v
  rcases h with h | h <;> subst h <;> rw [if_neg (by decide), if_neg g, if_neg (by decide), if_neg (by decide), e]
theorem fl_m {C : Nat} {ifc yabs : Nat → Int32} {F : Nat → Int32 → Option Nat} {o c n : Int32} {m : Nat} (h : o = 2 ∨ o = 3) (g : ¬ C ≤ hq_t c) (e : F (hq_t c) n = some m) :
    fl_v C ifc yabs F o c n = if o = 3 ∧ ¬ yabs m = 0 then 3 else 0 := by
  unfold fl_v
  rcases h with h | h <;> subst h <;> rw [if_neg (by decide), if_neg g, if_neg (by decide), if_neg (by decide), e]
section
variable {x_classCount x_methodCount x_ruleCount x_isBuilt x_faultPlace x_namedClasses x_madeClasses x_namedMethods x_liveMethods x_depth x_stepCount x_outCount x_traceCount : Int32} {x_isInterfaceClass x_chainOf x_interfacesOf x_ancestorsOf x_homeOf x_formOf x_nameOf x_lengthOf x_opOf x_classOf x_numberOf x_sourceMethod x_sourceLine x_callLine x_ruleKind x_ruleClasses x_ruleNames x_newNumber x_familyOf x_sightOf x_frameRow x_frameLine x_frameHeld x_outInts x_traceMethod x_traceLine : Nat → Int32} {y_parent y_many y_isAbstract y_name y_length y_op y_first y_second : Nat → Int32} {C M R : Nat}
theorem tp_un (T : tp_p C M R x_isInterfaceClass x_ancestorsOf x_interfacesOf x_chainOf y_parent y_many x_homeOf x_ruleKind x_ruleClasses x_ruleNames x_formOf x_nameOf x_lengthOf y_isAbstract y_name y_length x_opOf x_classOf x_numberOf x_sourceMethod x_sourceLine x_callLine y_op y_first y_second) (n : Int32) : un_ok M x_homeOf (fun m => decide (y_name m = n)) := fun a b ha hb qa qb eh =>
  T.2.2.2.2.1 a b ha hb ((of_decide_eq_true qa).trans (of_decide_eq_true qb).symm) eh
theorem tp_len (T : tp_p C M R x_isInterfaceClass x_ancestorsOf x_interfacesOf x_chainOf y_parent y_many x_homeOf x_ruleKind x_ruleClasses x_ruleNames x_formOf x_nameOf x_lengthOf y_isAbstract y_name y_length x_opOf x_classOf x_numberOf x_sourceMethod x_sourceLine x_callLine y_op y_first y_second) {m : Nat} (hm : m < M) : x_lengthOf m = nI (hq_t (y_length m)) ∧ y_length m = nI (hq_t (y_length m)) ∧ hq_t (y_length m) ≤ 6 := by
  obtain ⟨_, ⟨l, l6, e1, e2⟩, _⟩ := T.2.2.2.1 m hm
  rw [e2, hq_e (by omega)]
  exact ⟨e1, rfl, l6⟩
/-- X's search in the told program -/
theorem xo_v (T : tp_p C M R x_isInterfaceClass x_ancestorsOf x_interfacesOf x_chainOf y_parent y_many x_homeOf x_ruleKind x_ruleClasses x_ruleNames x_formOf x_nameOf x_lengthOf y_isAbstract y_name y_length x_opOf x_classOf x_numberOf x_sourceMethod x_sourceLine x_callLine y_op y_first y_second) (hM : x_methodCount = nI M) {post : Int32 → Prop} {c : Nat} {n : Int32} (hc : c < C) (hp : post (oI (fo_v M x_ancestorsOf x_chainOf x_homeOf y_name c n))) :
    wpX_find post (x_classCount, x_methodCount, x_ruleCount, x_isBuilt, x_faultPlace, x_namedClasses, x_madeClasses, x_namedMethods, x_liveMethods, x_depth, x_stepCount, x_outCount, x_traceCount, x_isInterfaceClass, x_chainOf, x_interfacesOf, x_ancestorsOf, x_homeOf, x_formOf, x_nameOf, x_lengthOf, x_opOf, x_classOf, x_numberOf, x_sourceMethod, x_sourceLine, x_callLine, x_ruleKind, x_ruleClasses, x_ruleNames, x_newNumber, x_familyOf, x_sightOf, x_frameRow, x_frameLine, x_frameHeld, x_outInts, x_traceMethod, x_traceLine) 0 (nI c) n :=
  xf_v (w := 0) T.1.1 T.2.2.1 (by decide) hc (fun i => (T.1.2 c hc).2.2.2.1 i) (fun m => decide (y_name m = n)) (fun m hm => by
    obtain ⟨⟨k, _, e1, e2⟩, _, e3, _⟩ := T.2.2.2.1 m hm
    rw [Nat.mul_zero, Nat.zero_add, decide_eq_true_eq, e1, e2]
    refine ⟨fun z => ⟨?_, z⟩, fun z => z.2⟩
    rcases e3 with ⟨_, e⟩ | ⟨_, e⟩ <;> rw [e] <;> decide) hM hp
theorem xw_v (T : tp_p C M R x_isInterfaceClass x_ancestorsOf x_interfacesOf x_chainOf y_parent y_many x_homeOf x_ruleKind x_ruleClasses x_ruleNames x_formOf x_nameOf x_lengthOf y_isAbstract y_name y_length x_opOf x_classOf x_numberOf x_sourceMethod x_sourceLine x_callLine y_op y_first y_second) (hC : x_classCount = nI C) (hM : x_methodCount = nI M) {post : Int32 → Prop} {m k : Nat} (hm : m < M) (hk : k < hq_t (y_length m))
    (hp : post (fl_v C x_isInterfaceClass y_isAbstract (fo_v M x_ancestorsOf x_chainOf x_homeOf y_name) (y_op (6 * m + k)) (y_first (6 * m + k)) (y_second (6 * m + k)))) :
    wpX_faultOf post (x_classCount, x_methodCount, x_ruleCount, x_isBuilt, x_faultPlace, x_namedClasses, x_madeClasses, x_namedMethods, x_liveMethods, x_depth, x_stepCount, x_outCount, x_traceCount, x_isInterfaceClass, x_chainOf, x_interfacesOf, x_ancestorsOf, x_homeOf, x_formOf, x_nameOf, x_lengthOf, x_opOf, x_classOf, x_numberOf, x_sourceMethod, x_sourceLine, x_callLine, x_ruleKind, x_ruleClasses, x_ruleNames, x_newNumber, x_familyOf, x_sightOf, x_frameRow, x_frameLine, x_frameHeld, x_outInts, x_traceMethod, x_traceLine) (nI (24 * m + k)) := by
  have h30 := T.2.2.1.1
  have h10 := T.1.1
  have hl := (tp_len T hm).2.2
  obtain ⟨o, o6, e1, e2, e3, e4, e5, _, _, _⟩ := T.2.2.2.2.2.1 m k hm hk
  rw [e2] at hp
  unfold wpX_faultOf
  dsimp only
  rw [nI_c (by omega)]
  refine ⟨vp_in_nI (by omega) (by decide), nm_r e1 ⟨vp_in_nI (by omega) (by decide), ?_⟩⟩
  by_cases oc : 1 ≤ o ∧ o ≤ 4
  · obtain ⟨c, c10, f1, f2⟩ := e3 oc
    rw [f2] at hp
    have no : ¬ (nI o = 0 ∨ nI o = 5) := by
      rintro (z | z)
      · have := (nI_eq (a := o) (b := 0) (by omega) (by omega)).mp z; omega
      · have := (nI_eq (a := o) (b := 5) (by omega) (by omega)).mp z; omega
    refine nm_r f1 (br_f (oI_n (by omega)) ?_)
    rw [hC]
    refine pk_lt c C (fun cl => ?_) (fun cl => ?_)
    · have ncl : ¬ C ≤ hq_t (nI c) := by rw [hq_e (by omega)]; omega
      refine pk_eq o 1 (fun z => ?_) (fun z1 => ?_)
      · subst z
        refine ⟨vp_in_nI (by omega) (by decide), ?_⟩
        have v := fl_2 (ifc := x_isInterfaceClass) (yabs := y_isAbstract) (F := fo_v M x_ancestorsOf x_chainOf x_homeOf y_name) (n := y_second (6 * m + k)) ncl
        have hp' := hp
        rw [show nI 1 = (1 : Int32) from rfl, v, hq_e (by omega)] at hp'
        rw [nI_c (by omega)]
        refine br_c (fun z => ?_) (fun z => ?_)
        · rw [if_pos z] at hp'; exact hp'
        · rw [if_neg z] at hp'; exact hp'
      · refine pk_eq o 4 (fun z => ?_) (fun z4 => ?_)
        · subst z
          have v := fl_4 (ifc := x_isInterfaceClass) (yabs := y_isAbstract) (F := fo_v M x_ancestorsOf x_chainOf x_homeOf y_name) (n := y_second (6 * m + k)) ncl
          rw [show nI 4 = (4 : Int32) from rfl, v] at hp
          exact hp
        · have o23 : o = 2 ∨ o = 3 := by omega
          have o23' : nI o = 2 ∨ nI o = 3 := by
            rcases o23 with z | z
            · subst z; exact Or.inl rfl
            · subst z; exact Or.inr rfl
          obtain ⟨n, n10, g1, g2⟩ := e5 o23
          rw [g2] at hp
          refine ⟨vp_in_nI (by omega) (by decide), ?_⟩
          rw [g1]
          refine xo_v T hM cl ?_
          have hce : hq_t (nI c) = c := hq_e (by omega)
          cases e : fo_v M x_ancestorsOf x_chainOf x_homeOf y_name c (nI n) with
          | none =>
            rw [fl_n o23' ncl (by rw [hce]; exact e)] at hp
            exact br_t rfl hp
          | some t =>
            have tM := (fd_s T.1 cl e).1
            rw [fl_m o23' ncl (by rw [hce]; exact e)] at hp
            refine br_f (oI_n (by omega)) (br_c (fun z => ?_) (fun z => ?_))
            · refine ⟨vp_in_nI (by omega) (by decide), ?_⟩
              rw [oI_s, nI_c (by omega)]
              rcases (T.2.2.2.1 t tM).2.2.1 with ⟨a1, a2⟩ | ⟨a1, a2⟩
              · rw [if_neg (fun q => q.2 a1)] at hp; exact br_t a2 hp
              · rw [if_pos ⟨z, a1⟩] at hp; exact br_f (by rw [a2]; decide) hp
            · rw [if_neg (fun q => z q.1)] at hp; exact hp
    · rw [fl_1 no (by rw [hq_e (by omega)]; exact cl)] at hp
      exact hp
  · have z : nI o = 0 ∨ nI o = 5 := by
      have : o = 0 ∨ o = 5 := by omega
      rcases this with z | z
      · subst z; exact Or.inl rfl
      · subst z; exact Or.inr rfl
    rw [fl_0 z] at hp
    exact nm_r (e4 oc) (br_t rfl hp)
theorem fb_i {m k : Nat} (h6 : k < 6) : fb_p C M x_isInterfaceClass x_ancestorsOf x_chainOf x_homeOf y_isAbstract y_name y_length y_op y_first y_second (6 * m + k) = true ↔ k < hq_t (y_length m) ∧ ¬ fl_v C x_isInterfaceClass y_isAbstract (fo_v M x_ancestorsOf x_chainOf x_homeOf y_name) (y_op (6 * m + k)) (y_first (6 * m + k)) (y_second (6 * m + k)) = 0 := by
  have e1 : (6 * m + k) / 6 = m := by omega
  have e2 : (6 * m + k) % 6 = k := by omega
  unfold fb_p
  rw [e1, e2, bb_a, decide_eq_true_eq, decide_eq_true_eq]
theorem xp_i (T : tp_p C M R x_isInterfaceClass x_ancestorsOf x_interfacesOf x_chainOf y_parent y_many x_homeOf x_ruleKind x_ruleClasses x_ruleNames x_formOf x_nameOf x_lengthOf y_isAbstract y_name y_length x_opOf x_classOf x_numberOf x_sourceMethod x_sourceLine x_callLine y_op y_first y_second) (hC : x_classCount = nI C) (hM : x_methodCount = nI M) {post : Int32 → Prop} {J : Int32 → Prop} {m : Nat} (hm : m < M)
    (hp : post (ff_r (ff_v C M x_isInterfaceClass x_ancestorsOf x_chainOf x_homeOf y_isAbstract y_name y_length y_op y_first y_second))) (hJ : (∀ j, j < 6 * (m + 1) → ¬ fb_p C M x_isInterfaceClass x_ancestorsOf x_chainOf x_homeOf y_isAbstract y_name y_length y_op y_first y_second j = true) → J (nI (m + 1))) :
    ∀ q k f, k + q = hq_t (y_length m) → q < f → (∀ j, j < 6 * m + k → ¬ fb_p C M x_isInterfaceClass x_ancestorsOf x_chainOf x_homeOf y_isAbstract y_name y_length y_op y_first y_second j = true) → wX_firstFaultPlace_12 post J (nI m) x_classCount x_methodCount x_ruleCount x_isBuilt x_faultPlace x_namedClasses x_madeClasses x_namedMethods x_liveMethods x_depth x_stepCount x_outCount x_traceCount x_isInterfaceClass x_chainOf x_interfacesOf x_ancestorsOf x_homeOf x_formOf x_nameOf x_lengthOf x_opOf x_classOf x_numberOf x_sourceMethod x_sourceLine x_callLine x_ruleKind x_ruleClasses x_ruleNames x_newNumber x_familyOf x_sightOf x_frameRow x_frameLine x_frameHeld x_outInts x_traceMethod x_traceLine f (nI k) := by
  have h30 := T.2.2.1.1
  obtain ⟨l1, l2, l6⟩ := tp_len T hm
  intro q
  induction q with
  | zero =>
    intro k f e hf no
    obtain ⟨f, rfl⟩ : ∃ q, f = q + 1 := ⟨f - 1, by omega⟩
    rw [wX_firstFaultPlace_12]
    refine ⟨vp_in_nI (by omega) (by decide), ?_⟩
    rw [nI_c (by omega), l1]
    refine br_t (nI_le (by omega) (by omega)) (nm_r (nI_1 m) (hJ (fun j hj z => ?_)))
    rcases Nat.lt_or_ge j (6 * m + k) with y | y
    · exact no j y z
    · obtain ⟨i, rfl⟩ : ∃ i, j = 6 * m + i := ⟨j - 6 * m, by omega⟩
      have := ((fb_i (by omega)).mp z).1
      omega
  | succ q ih =>
    intro k f e hf no
    obtain ⟨f, rfl⟩ : ∃ q, f = q + 1 := ⟨f - 1, by omega⟩
    rw [wX_firstFaultPlace_12]
    refine ⟨vp_in_nI (by omega) (by decide), ?_⟩
    rw [nI_c (by omega), l1]
    refine br_f (nI_ge (by omega) (by omega)) ?_
    rw [nI_a24]
    refine xw_v T hC hM hm (by omega) (br_c (fun z => ?_) (fun z => ?_))
    · refine nm_r (nI_1 k) (ih (k + 1) f (by omega) (by omega) (fun j hj y => ?_))
      rcases Nat.lt_or_ge j (6 * m + k) with w | w
      · exact no j w y
      · have : j = 6 * m + k := by omega
        subst this
        exact ((fb_i (by omega)).mp y).2 z
    · have v : ff_v C M x_isInterfaceClass x_ancestorsOf x_chainOf x_homeOf y_isAbstract y_name y_length y_op y_first y_second = some (6 * m + k) := sc_fI (by omega) ((fb_i (by omega)).mpr ⟨by omega, z⟩) no
      rw [v] at hp
      have e1 : (6 * m + k) / 6 = m := by omega
      have e2 : (6 * m + k) % 6 = k := by omega
      have hp : post (nI (8 * ((6 * m + k) / 6) + (6 * m + k) % 6)) := hp
      rw [e1, e2] at hp
      show post (nI 8 * nI m + nI k)
      rw [pk_mul, nI_add]
      exact hp
theorem xp_v (T : tp_p C M R x_isInterfaceClass x_ancestorsOf x_interfacesOf x_chainOf y_parent y_many x_homeOf x_ruleKind x_ruleClasses x_ruleNames x_formOf x_nameOf x_lengthOf y_isAbstract y_name y_length x_opOf x_classOf x_numberOf x_sourceMethod x_sourceLine x_callLine y_op y_first y_second) (hC : x_classCount = nI C) (hM : x_methodCount = nI M) {post : Int32 → Prop} (hp : post (ff_r (ff_v C M x_isInterfaceClass x_ancestorsOf x_chainOf x_homeOf y_isAbstract y_name y_length y_op y_first y_second))) : wpX_firstFaultPlace post (x_classCount, x_methodCount, x_ruleCount, x_isBuilt, x_faultPlace, x_namedClasses, x_madeClasses, x_namedMethods, x_liveMethods, x_depth, x_stepCount, x_outCount, x_traceCount, x_isInterfaceClass, x_chainOf, x_interfacesOf, x_ancestorsOf, x_homeOf, x_formOf, x_nameOf, x_lengthOf, x_opOf, x_classOf, x_numberOf, x_sourceMethod, x_sourceLine, x_callLine, x_ruleKind, x_ruleClasses, x_ruleNames, x_newNumber, x_familyOf, x_sightOf, x_frameRow, x_frameLine, x_frameHeld, x_outInts, x_traceMethod, x_traceLine) := by
  have h30 := T.2.2.1.1
  have lo : ∀ q m f, m + q = M → q < f → (∀ j, j < 6 * m → ¬ fb_p C M x_isInterfaceClass x_ancestorsOf x_chainOf x_homeOf y_isAbstract y_name y_length y_op y_first y_second j = true) → wX_firstFaultPlace_2 post x_classCount x_methodCount x_ruleCount x_isBuilt x_faultPlace x_namedClasses x_madeClasses x_namedMethods x_liveMethods x_depth x_stepCount x_outCount x_traceCount x_isInterfaceClass x_chainOf x_interfacesOf x_ancestorsOf x_homeOf x_formOf x_nameOf x_lengthOf x_opOf x_classOf x_numberOf x_sourceMethod x_sourceLine x_callLine x_ruleKind x_ruleClasses x_ruleNames x_newNumber x_familyOf x_sightOf x_frameRow x_frameLine x_frameHeld x_outInts x_traceMethod x_traceLine f (nI m) := by
    intro q
    induction q with
    | zero =>
      intro m f e hf no
      obtain ⟨f, rfl⟩ : ∃ q, f = q + 1 := ⟨f - 1, by omega⟩
      have e : m = M := by omega
      subst e
      rw [wX_firstFaultPlace_2, hM]
      have v : ff_v C m x_isInterfaceClass x_ancestorsOf x_chainOf x_homeOf y_isAbstract y_name y_length y_op y_first y_second = none := sc_fN no
      rw [v] at hp
      exact br_t (nI_le (Nat.le_refl _) (by omega)) hp
    | succ q ih =>
      intro m f e hf no
      obtain ⟨f, rfl⟩ : ∃ q, f = q + 1 := ⟨f - 1, by omega⟩
      rw [wX_firstFaultPlace_2]
      refine br_f (by rw [hM]; exact nI_ge (by omega) (by omega)) ⟨hq_t (y_length m) + 1, ?_⟩
      exact xp_i T hC hM (by omega) hp (fun z => ih (m + 1) f (by omega) (by omega) z) (hq_t (y_length m)) 0 _ (by omega) (by omega) no
  unfold wpX_firstFaultPlace
  exact ⟨M + 1, lo M 0 (M + 1) (by omega) (by omega) (fun j hj => by omega)⟩
end
