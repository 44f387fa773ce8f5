/-! ===== line: the two walks ===== -/
def xv_v (O P N S U A nu : Nat → Int32) (p w : Nat) : Int32 :=
  match w with
  | 0 => O p
  | 1 => if P p = -1 then -1 else nu (hq_t (P p))
  | 2 => N p
  | 3 => S p
  | 4 => U p
  | _ => A p
section
variable {x_classCount x_methodCount x_ruleCount x_isBuilt x_faultPlace x_namedClasses x_madeClasses x_namedMethods x_liveMethods x_depth x_stepCount x_outCount x_traceCount : Int32} {x_isInterfaceClass x_chainOf x_interfacesOf x_ancestorsOf x_homeOf x_formOf x_nameOf x_lengthOf x_opOf x_classOf x_numberOf x_sourceMethod x_sourceLine x_callLine x_ruleKind x_ruleClasses x_ruleNames x_newNumber x_familyOf x_sightOf x_frameRow x_frameLine x_frameHeld x_outInts x_traceMethod x_traceLine : Nat → Int32} {y_classes y_methods y_rules y_place y_named y_made y_namedMethods y_live y_built y_depth y_steps y_outs y_ending : Int32} {y_isInterface y_isAbstract y_parent y_ancestors y_own y_many y_home y_name y_length y_op y_first y_second y_ruleKind y_ruleClasses y_ruleNames y_inlined y_number y_newName y_family y_vMethod y_vLine y_vHeld y_put : Nat → Int32} {C M R : Nat}
/-- the new program's lines: X's cells as Y tells them -/
theorem lv_h {inl : Nat → Int32} {b1 d1 kept : Int32} (T : tp_p C M R x_isInterfaceClass x_ancestorsOf x_interfacesOf x_chainOf y_parent y_many x_homeOf x_ruleKind x_ruleClasses x_ruleNames x_formOf x_nameOf x_lengthOf y_isAbstract y_name y_length x_opOf x_classOf x_numberOf x_sourceMethod x_sourceLine x_callLine y_op y_first y_second) (NF : ff_v C M x_isInterfaceClass x_ancestorsOf x_chainOf x_homeOf y_isAbstract y_name y_length y_op y_first y_second = none) (hI : ∀ m k, m < M → k < 6 → il_p C M x_ancestorsOf x_chainOf x_homeOf y_isAbstract y_name y_length y_op y_first y_second b1 d1 m k (inl (6 * m + k)))
    (xb : xb_p C M R x_ancestorsOf x_chainOf x_homeOf x_ruleClasses x_ruleNames y_name y_length y_op y_first y_second inl x_namedClasses x_namedMethods x_liveMethods kept x_formOf x_nameOf x_lengthOf x_opOf x_classOf x_numberOf x_sourceMethod x_sourceLine x_callLine x_newNumber)
    (yn : ∀ k, k < C → y_number k = nu_v kept x_namedClasses k) (yf : ∀ m, m < M → y_family m = nI (kn_f C M x_ancestorsOf x_homeOf y_name x_namedClasses x_namedMethods m)) (yw : ∀ m, m < M → y_newName m = na_it C M R x_ancestorsOf x_homeOf y_name x_ruleClasses x_ruleNames x_namedClasses x_namedMethods M m)
    {m x : Nat} (hm : m < M) (hl : bt x_liveMethods m = true) (hx : x < hq_t (y_length m)) :
    ∃ o g, o < 6 ∧ y_op (6 * m + x) = nI o ∧ (1 ≤ o → o ≤ 4 → ∃ c, c < C ∧ y_first (6 * m + x) = nI c) ∧ ((o = 2 ∨ o = 3) → fo_v M x_ancestorsOf x_chainOf x_homeOf y_name (hq_t (y_first (6 * m + x))) (y_second (6 * m + x)) = some g) ∧
      ∀ w, w < 6 → xv_v x_opOf x_classOf x_numberOf x_sourceMethod x_sourceLine x_callLine x_newNumber (24 * (30 + m) + po_n inl y_length m x) w =
        tv_v y_number y_first y_second (y_newName (hq_t (y_family g))) (if inl (6 * m + x) < 0 then 0 else 1) (-1) o m x w := by
  have h30 := T.2.2.1.1
  have h10 := T.1.1
  have l6 := (tp_len T hm).2.2
  obtain ⟨o, o6, e1, e2, e3, e4, e5, e50, e5n, _⟩ := T.2.2.2.2.2.1 m x hm hx
  obtain ⟨o', o6', ey, ex, g1, g2, g3⟩ := xc_c T NF hm hx
  have oo : o' = o := by rw [e2] at ey; exact ((nI_eq (by omega) (by omega)).mp ey).symm
  subst oo
  obtain ⟨c1, c2, s1, s2, s3⟩ := xb.2.2.1 m hm hl x hx
  have nue : ∀ k, k < C → x_newNumber k = y_number k := fun k hk => by rw [xb.2.2.2.2.1 k hk, yn k hk]
  have gex : ∃ g, (o' = 2 ∨ o' = 3) → fo_v M x_ancestorsOf x_chainOf x_homeOf y_name (hq_t (y_first (6 * m + x))) (y_second (6 * m + x)) = some g := by
    by_cases h : o' = 2 ∨ o' = 3
    · obtain ⟨_, g, eg, _⟩ := g3 h
      exact ⟨g, fun _ => eg⟩
    · exact ⟨0, fun z => absurd z h⟩
  obtain ⟨g, eg⟩ := gex
  refine ⟨o', g, o6, e2, fun a b => ?_, eg, fun w hw => ?_⟩
  · obtain ⟨q, qC, p1, _⟩ := g1 ⟨a, b⟩
    exact ⟨q, qC, p1⟩
  · by_cases n : inl (6 * m + x) < 0
    · obtain ⟨q1, q2, q3⟩ := c1 n
      rw [if_pos n]
      rcases (by omega : w = 0 ∨ w = 1 ∨ w = 2 ∨ w = 3 ∨ w = 4 ∨ w = 5) with q | q | q | q | q | q
      · subst q
        show x_opOf (24 * (30 + m) + po_n inl y_length m x) = if (0 : Int32) = 0 then nI o' else 6
        rw [q1, ex, if_pos rfl]
      · subst q
        show (if x_classOf (24 * (30 + m) + po_n inl y_length m x) = -1 then -1 else x_newNumber (hq_t (x_classOf (24 * (30 + m) + po_n inl y_length m x)))) = if o' = 0 ∨ o' = 5 ∨ (¬ (0 : Int32) = 0 ∧ o' = 3) then -1 else y_number (hq_t (y_first (6 * m + x)))
        rw [q2]
        by_cases oc : 1 ≤ o' ∧ o' ≤ 4
        · obtain ⟨q, qC, p1, p2⟩ := g1 oc
          have nz : ¬ (o' = 0 ∨ o' = 5 ∨ (¬ (0 : Int32) = 0 ∧ o' = 3)) := by
            rintro (z | z | z)
            · omega
            · omega
            · exact z.1 rfl
          rw [p1, p2, if_neg (oI_n (by omega)), if_neg nz, hq_e (by omega), nue q qC]
        · rw [g2 oc, if_pos rfl, if_pos (by omega)]
      · subst q
        show x_numberOf (24 * (30 + m) + po_n inl y_length m x) = if (0 : Int32) = 0 ∧ (o' = 2 ∨ o' = 3) then y_newName (hq_t (y_family g)) else if o' = 0 then y_second (6 * m + x) else 0
        rw [q3]
        unfold rn_v
        by_cases h : o' = 2 ∨ o' = 3
        · have h' : y_op (6 * m + x) = 2 ∨ y_op (6 * m + x) = 3 := by
            rw [e2]
            rcases h with z | z
            · subst z; exact Or.inl rfl
            · subst z; exact Or.inr rfl
          obtain ⟨q, qC, p1, p2⟩ := g1 (by omega)
          have eg := eg h
          have gM : g < M := by
            rw [p1, hq_e (by omega)] at eg
            exact (fd_s T.1 qC eg).1
          have kl := kn_le (C := C) (M := M) (anc := x_ancestorsOf) (hom := x_homeOf) (nam := y_name) (N := x_namedClasses) (Q := x_namedMethods) g
          rw [if_pos h', if_pos ⟨rfl, h⟩, eg]
          show x_nameOf (30 + g) = _
          rw [xb.2.2.2.1 g gM, yf g gM, hq_e (by omega), yw _ (by omega)]
        · have h' : ¬ (y_op (6 * m + x) = 2 ∨ y_op (6 * m + x) = 3) := by
            rw [e2]
            rintro (z | z)
            · exact h (Or.inl ((nI_eq (a := o') (b := 2) (by omega) (by omega)).mp z))
            · exact h (Or.inr ((nI_eq (a := o') (b := 3) (by omega) (by omega)).mp z))
          rw [if_neg h', if_neg (fun z => h z.2)]
          by_cases z : o' = 0
          · rw [if_pos z]; exact e50 z
          · rw [if_neg z]; exact e5n (by omega)
      · subst q; exact s1
      · subst q; exact s2
      · subst q; exact s3
    · obtain ⟨q1, q2, q3, _⟩ := c2 n
      rw [if_neg n]
      have o23 : o' = 2 ∨ o' = 3 := by
        rcases in_bl hI hm (show x < 6 by omega) with e | ⟨t, tM, et, _, _, oo⟩
        · rw [e] at n; exact absurd (by decide) n
        · rw [e2] at oo
          rcases oo with z | z
          · exact Or.inl ((nI_eq (a := o') (b := 2) (by omega) (by omega)).mp z)
          · exact Or.inr ((nI_eq (a := o') (b := 3) (by omega) (by omega)).mp z)
      rcases (by omega : w = 0 ∨ w = 1 ∨ w = 2 ∨ w = 3 ∨ w = 4 ∨ w = 5) with q | q | q | q | q | q
      · subst q
        show x_opOf (24 * (30 + m) + po_n inl y_length m x) = if (1 : Int32) = 0 then nI o' else 6
        rw [q1, if_neg (by decide)]
      · subst q
        show (if x_classOf (24 * (30 + m) + po_n inl y_length m x) = -1 then -1 else x_newNumber (hq_t (x_classOf (24 * (30 + m) + po_n inl y_length m x)))) = if o' = 0 ∨ o' = 5 ∨ (¬ (1 : Int32) = 0 ∧ o' = 3) then -1 else y_number (hq_t (y_first (6 * m + x)))
        rw [q2, ex]
        obtain ⟨q, qC, p1, p2⟩ := g1 (by omega)
        rcases o23 with z | z
        · subst z
          rw [if_neg (show ¬ nI 2 = 3 by decide), p1, p2, if_neg (oI_n (by omega)), if_neg (by omega), hq_e (by omega), nue q qC]
        · subst z
          rw [if_pos (show nI 3 = 3 from rfl), if_pos rfl, if_pos (Or.inr (Or.inr ⟨by decide, rfl⟩))]
      · subst q
        show x_numberOf (24 * (30 + m) + po_n inl y_length m x) = if (1 : Int32) = 0 ∧ (o' = 2 ∨ o' = 3) then y_newName (hq_t (y_family g)) else if o' = 0 then y_second (6 * m + x) else 0
        rw [q3, if_neg (fun z => absurd z.1 (by decide)), if_neg (by omega)]
      · subst q; exact s1
      · subst q; exact s2
      · subst q; exact s3
/-- and those that were inlined -/
theorem lv_i {inl : Nat → Int32} {b1 d1 kept : Int32} (T : tp_p C M R x_isInterfaceClass x_ancestorsOf x_interfacesOf x_chainOf y_parent y_many x_homeOf x_ruleKind x_ruleClasses x_ruleNames x_formOf x_nameOf x_lengthOf y_isAbstract y_name y_length x_opOf x_classOf x_numberOf x_sourceMethod x_sourceLine x_callLine y_op y_first y_second) (hI : ∀ m k, m < M → k < 6 → il_p C M x_ancestorsOf x_chainOf x_homeOf y_isAbstract y_name y_length y_op y_first y_second b1 d1 m k (inl (6 * m + k)))
    (xb : xb_p C M R x_ancestorsOf x_chainOf x_homeOf x_ruleClasses x_ruleNames y_name y_length y_op y_first y_second inl x_namedClasses x_namedMethods x_liveMethods kept x_formOf x_nameOf x_lengthOf x_opOf x_classOf x_numberOf x_sourceMethod x_sourceLine x_callLine x_newNumber)
    {m x j : Nat} (hm : m < M) (hl : bt x_liveMethods m = true) (hx : x < hq_t (y_length m)) (n : ¬ inl (6 * m + x) < 0) (hj : j < hq_t (y_length (hq_t (inl (6 * m + x))))) (nn : Int32) :
    ∃ t o, t < M ∧ inl (6 * m + x) = nI t ∧ j < 3 ∧ (o = 0 ∨ o = 5) ∧ y_op (6 * t + j) = nI o ∧ j < hq_t (y_length t) ∧
      ∀ w, w < 6 → xv_v x_opOf x_classOf x_numberOf x_sourceMethod x_sourceLine x_callLine x_newNumber (24 * (30 + m) + po_n inl y_length m x + 1 + j) w =
        tv_v y_number y_first y_second nn 0 (nI x) o t j w := by
  have h30 := T.2.2.1.1
  have l6 := (tp_len T hm).2.2
  obtain ⟨_, c2, _⟩ := xb.2.2.1 m hm hl x hx
  obtain ⟨_, _, _, q4⟩ := c2 n
  obtain ⟨r1, r2, r3, r4, r5, r6⟩ := q4 j hj
  rcases in_bl hI hm (show x < 6 by omega) with e | ⟨t, tM, et, l3, ops, _⟩
  · rw [e] at n; exact absurd (by decide) n
  · have ht : hq_t (inl (6 * m + x)) = t := by rw [et]; exact hq_e (by omega)
    rw [ht] at hj r1 r3
    obtain ⟨o, o6, e1, e2, _, _, _, e50, e5n, _⟩ := T.2.2.2.2.2.1 t j tM hj
    have o05 : o = 0 ∨ o = 5 := by
      rcases ops j hj with z | z
      · rw [e2] at z; exact Or.inl ((nI_eq (a := o) (b := 0) (by omega) (by omega)).mp z)
      · rw [e2] at z; exact Or.inr ((nI_eq (a := o) (b := 5) (by omega) (by omega)).mp z)
    refine ⟨t, o, tM, et, by omega, o05, e2, hj, fun w hw => ?_⟩
    rcases (by omega : w = 0 ∨ w = 1 ∨ w = 2 ∨ w = 3 ∨ w = 4 ∨ w = 5) with q | q | q | q | q | q
    · subst q
      show x_opOf (24 * (30 + m) + po_n inl y_length m x + 1 + j) = if (0 : Int32) = 0 then nI o else 6
      rw [r1, e1, if_pos rfl]
    · subst q
      show (if x_classOf (24 * (30 + m) + po_n inl y_length m x + 1 + j) = -1 then -1 else x_newNumber (hq_t (x_classOf (24 * (30 + m) + po_n inl y_length m x + 1 + j)))) = if o = 0 ∨ o = 5 ∨ (¬ (0 : Int32) = 0 ∧ o = 3) then -1 else y_number (hq_t (y_first (6 * t + j)))
      rw [r2, if_pos rfl, if_pos (by omega)]
    · subst q
      show x_numberOf (24 * (30 + m) + po_n inl y_length m x + 1 + j) = if (0 : Int32) = 0 ∧ (o = 2 ∨ o = 3) then nn else if o = 0 then y_second (6 * t + j) else 0
      rw [r3, if_neg (by omega)]
      by_cases z : o = 0
      · rw [if_pos z]; exact e50 z
      · rw [if_neg z]; exact e5n (by omega)
    · subst q
      show x_sourceMethod (24 * (30 + m) + po_n inl y_length m x + 1 + j) = nI t
      rw [r4, et]
    · subst q; exact r5
    · subst q; exact r6
end
