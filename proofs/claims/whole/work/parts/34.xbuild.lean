/-! ===== X's build ===== -/
def rn_v (F : Nat → Int32 → Option Nat) (yop yfi yse xname xnu : Nat → Int32) (m x : Nat) : Int32 :=
  if yop (6 * m + x) = 2 ∨ yop (6 * m + x) = 3 then (match F (hq_t (yfi (6 * m + x))) (yse (6 * m + x)) with
    | some g => xname (30 + g)
    | none => -1) else xnu (24 * m + x)
theorem cl_cg {C M R : Nat} {anc hom nam rk rc rn : Nat → Int32} {fil : Nat → Prop} {E E' : Nat → (Nat → Nat → Prop) → Prop} (he : ∀ m S, m < M → (E m S ↔ E' m S)) {Z : Nat → Nat → Prop} (h : cl_ok C M R anc hom nam rk rc rn fil E Z) : cl_ok C M R anc hom nam rk rc rn fil E' Z :=
  ⟨h.1, h.2.1, h.2.2.1, fun m hm z => (he m Z hm).mp (h.2.2.2 m hm z)⟩
theorem mi_cg {C M R : Nat} {anc hom nam rk rc rn : Nat → Int32} {fil : Nat → Prop} {E E' : Nat → (Nat → Nat → Prop) → Prop} (he : ∀ m S, m < M → (E m S ↔ E' m S)) {a b c d : Int32} (h : mi_ok C M R anc hom nam rk rc rn fil E a b c d) : mi_ok C M R anc hom nam rk rc rn fil E' a b c d :=
  ⟨fun S hS => h.1 S (cl_cg (fun m S hm => (he m S hm).symm) hS), h.2⟩
/-- what lies in the new program of X -/
def xb_p (C M R : Nat) (anc chn hom rc rn yname ylen yop yfi yse inl : Nat → Int32) (a c d kept : Int32) (F nm L O P N S U A nu : Nat → Int32) : Prop :=
  (∀ m, m < M → F (30 + m) = if bt d m = true then 2 else if bt c m = true then 1 else 0) ∧
  (∀ m, m < M → L (30 + m) = if bt d m = true then nI (po_n inl ylen m (hq_t (ylen m))) else 0) ∧
  (∀ m, m < M → bt d m = true → ∀ x, x < hq_t (ylen m) → lc_p inl ylen O P N S U A (rn_v (fo_v M anc chn hom yname) yop yfi yse nm N) m x) ∧
  (∀ m, m < M → nm (30 + m) = na_it C M R anc hom yname rc rn a c M (kn_f C M anc hom yname a c m)) ∧
  (∀ k, k < C → nu k = nu_v kept a k) ∧ ke_p R rc a kept
section
variable {x_classCount x_methodCount x_ruleCount x_isBuilt x_faultPlace x_namedClasses x_madeClasses x_namedMethods x_liveMethods x_depth x_stepCount x_outCount x_traceCount : Int32} {x_isInterfaceClass x_chainOf x_interfacesOf x_ancestorsOf x_homeOf x_formOf x_nameOf x_lengthOf x_opOf x_classOf x_numberOf x_sourceMethod x_sourceLine x_callLine x_ruleKind x_ruleClasses x_ruleNames x_newNumber x_familyOf x_sightOf x_frameRow x_frameLine x_frameHeld x_outInts x_traceMethod x_traceLine : Nat → Int32} {y_parent y_many y_isAbstract y_name y_length y_op y_first y_second : Nat → Int32} {C M R : Nat}
/-- a cell of the new program: class and op -/
theorem ly_c {L O P N S U A : Nat → Int32} {inl : Nat → Int32} {nv : Nat → Nat → Int32} (T : tp_p C M R x_isInterfaceClass x_ancestorsOf x_interfacesOf x_chainOf y_parent y_many x_homeOf x_ruleKind x_ruleClasses x_ruleNames x_formOf x_nameOf L y_isAbstract y_name y_length O P N S U A y_op y_first y_second) (NF : ff_v C M x_isInterfaceClass x_ancestorsOf x_chainOf x_homeOf y_isAbstract y_name y_length y_op y_first y_second = none) (hi : in_ok M inl y_length) (hop : ∀ m x, m < M → x < hq_t (y_length m) → ¬ inl (6 * m + x) < 0 → ∃ t, t < M ∧ inl (6 * m + x) = nI t ∧ ∀ i, i < hq_t (y_length t) → y_op (6 * t + i) = 0 ∨ y_op (6 * t + i) = 5)
    {m : Nat} (hm : m < M) (hc : ∀ x, x < hq_t (y_length m) → lc_p inl y_length O P N S U A nv m x) {k : Nat} (hk : k < po_n inl y_length m (hq_t (y_length m))) :
    (P (24 * (30 + m) + k) = -1 ∨ ∃ q, q < C ∧ P (24 * (30 + m) + k) = nI q) ∧ ((O (24 * (30 + m) + k) = 2 ∨ O (24 * (30 + m) + k) = 3) → ∃ q, q < C ∧ P (24 * (30 + m) + k) = nI q) := by
  have h30 := T.2.2.1.1
  have old : ∀ m x, m < M → x < hq_t (y_length m) → (P (24 * m + x) = -1 ∨ ∃ q, q < C ∧ P (24 * m + x) = nI q) ∧ ((O (24 * m + x) = 2 ∨ O (24 * m + x) = 3) → ∃ q, q < C ∧ P (24 * m + x) = nI q) := fun m x hm hx => by
    obtain ⟨o, o6, ey, ex, g1, g2, g3⟩ := xc_c T NF hm hx
    by_cases oc : 1 ≤ o ∧ o ≤ 4
    · obtain ⟨q, qC, _, e⟩ := g1 oc
      exact ⟨Or.inr ⟨q, qC, e⟩, fun _ => ⟨q, qC, e⟩⟩
    · refine ⟨Or.inl (g2 oc), fun z => ?_⟩
      rw [ex] at z
      rcases z with z | z
      · have := (nI_eq (a := o) (b := 2) (by omega) (by omega)).mp z; omega
      · have := (nI_eq (a := o) (b := 3) (by omega) (by omega)).mp z; omega
  obtain ⟨x, i, hx, hx2, rfl⟩ := ps_at hk
  obtain ⟨c1, c2, _⟩ := hc x hx
  rcases Nat.eq_zero_or_pos i with z | z
  · subst z
    by_cases n : inl (6 * m + x) < 0
    · obtain ⟨q1, q2, _⟩ := c1 n
      have o := old m x hm hx
      rw [← q1, ← q2] at o
      exact o
    · obtain ⟨q1, q2, _⟩ := c2 n
      have q1' : O (24 * (30 + m) + (ps_n (gy_n inl y_length m) x + 0)) = 6 := q1
      have q2' : P (24 * (30 + m) + (ps_n (gy_n inl y_length m) x + 0)) = (if O (24 * m + x) = 3 then -1 else P (24 * m + x)) := q2
      rw [q1', q2']
      refine ⟨?_, fun y => y.elim (fun w => absurd w (by decide)) (fun w => absurd w (by decide))⟩
      by_cases e : O (24 * m + x) = 3
      · rw [if_pos e]; exact Or.inl rfl
      · rw [if_neg e]; exact (old m x hm hx).1
  · by_cases n : inl (6 * m + x) < 0
    · rw [gy_1 n] at hx2; omega
    · rw [gy_t hx n] at hx2
      obtain ⟨_, _, _, q4⟩ := c2 n
      obtain ⟨j, rfl⟩ : ∃ j, i = 1 + j := ⟨i - 1, by omega⟩
      obtain ⟨r1, r2, _⟩ := q4 j (by omega)
      have e : 24 * (30 + m) + (ps_n (gy_n inl y_length m) x + (1 + j)) = 24 * (30 + m) + po_n inl y_length m x + 1 + j := by unfold po_n; omega
      rw [e, r1, r2]
      obtain ⟨t, tM, et, eo⟩ := hop m x hm hx n
      have ht : hq_t (inl (6 * m + x)) = t := by rw [et]; exact hq_e (by omega)
      rw [ht] at hx2 ⊢
      obtain ⟨o, o6, e1, e2, _⟩ := T.2.2.2.2.2.1 t j tM (by omega)
      refine ⟨Or.inl rfl, fun y => ?_⟩
      have eo := eo j (by omega)
      rw [e2] at eo
      rw [e1] at y
      rcases eo with w | w
      · rw [w] at y; exact absurd y (by decide)
      · rw [w] at y; exact absurd y (by decide)
end
