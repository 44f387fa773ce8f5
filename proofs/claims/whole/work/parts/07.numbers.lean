/-! ===== new numbers of classes (pure) ===== -/
noncomputable def lo_n (s : Int32) : Nat := le_o (fun n => bt s n = true)
noncomputable def nu_u (kept named : Int32) : Nat → Int32
  | 0 => kept
  | c + 1 => if bt named c = true ∧ ¬ bt kept c = true then nu_u kept named c ||| ((1 : Int32) <<< (nI (lo_n (nu_u kept named c)) &&& 31)) else nu_u kept named c
noncomputable def nu_v (kept named : Int32) (c : Nat) : Int32 :=
  if bt kept c = true then nI c else if bt named c = true then nI (lo_n (nu_u kept named c)) else -1
def nu_ok (kept named : Int32) (c : Nat) : Prop :=
  ∀ n, bt (nu_u kept named c) n = true → n < 10 ∧ (bt kept n = true ∨ ∃ g, g < c ∧ ¬ bt kept g = true ∧ lo_n (nu_u kept named g) = n)
theorem nu_10 {kept named : Int32} {c : Nat} (hc : c < 10) (k : ¬ bt kept c = true) (h : nu_ok kept named c) : lo_n (nu_u kept named c) < 10 ∧ ¬ bt (nu_u kept named c) (lo_n (nu_u kept named c)) = true ∧
    ∀ j, j < lo_n (nu_u kept named c) → bt (nu_u kept named c) j = true := by
  have ex : ∃ n, n < 10 ∧ ¬ bt (nu_u kept named c) n = true := by
    apply Classical.byContradiction
    intro no
    refine pg_x 10 (fun g => if bt kept g = true then g else lo_n (nu_u kept named g)) c hc (fun n hn => ?_)
    have b : bt (nu_u kept named c) n = true := Classical.byContradiction (fun z => no ⟨n, hn, z⟩)
    rcases (h n b).2 with z | ⟨g, g1, g2, g3⟩
    · refine ⟨n, hn, fun y => ?_, ?_⟩
      · subst y; exact k z
      · show (if bt kept n = true then n else lo_n (nu_u kept named n)) = n
        rw [if_pos z]
    · refine ⟨g, by omega, by omega, ?_⟩
      show (if bt kept g = true then g else lo_n (nu_u kept named g)) = n
      rw [if_neg g2]; exact g3
  obtain ⟨n, hn, b⟩ := ex
  obtain ⟨x, y, z⟩ := le_x (p := fun n => bt (nu_u kept named c) n = true) b
  exact ⟨Nat.lt_of_le_of_lt z hn, x, y⟩
theorem nu_0 {kept named : Int32} (hk : ∀ i, bt kept i = true → i < 10) : nu_ok kept named 0 := fun n h => ⟨hk n h, Or.inl h⟩
theorem nu_s {kept named : Int32} {c : Nat} (hc : c < 10) (h : nu_ok kept named c) : nu_ok kept named (c + 1) := by
  by_cases e : bt named c = true ∧ ¬ bt kept c = true
  · have l := nu_10 hc e.2 h
    have u : nu_u kept named (c + 1) = nu_u kept named c ||| ((1 : Int32) <<< (nI (lo_n (nu_u kept named c)) &&& 31)) := if_pos e
    intro n hn
    rw [u, bq_o1 _ (by omega)] at hn
    rcases hn with z | z
    · obtain ⟨a, b⟩ := h n z
      refine ⟨a, ?_⟩
      rcases b with b | ⟨g, g1, g2⟩
      · exact Or.inl b
      · exact Or.inr ⟨g, by omega, g2⟩
    · refine ⟨by omega, Or.inr ⟨c, by omega, e.2, z.symm⟩⟩
  · have u : nu_u kept named (c + 1) = nu_u kept named c := if_neg e
    intro n hn
    rw [u] at hn
    obtain ⟨a, b⟩ := h n hn
    refine ⟨a, ?_⟩
    rcases b with b | ⟨g, g1, g2⟩
    · exact Or.inl b
    · exact Or.inr ⟨g, by omega, g2⟩
theorem nu_all {kept named : Int32} (hk : ∀ i, bt kept i = true → i < 10) : ∀ c, c ≤ 10 → nu_ok kept named c
  | 0, _ => nu_0 hk
  | c + 1, h => nu_s (by omega) (nu_all hk c (by omega))
theorem nu_mask : ∀ C, C < 11 → ∀ i, i < 32 → bt (((1 : Int32) <<< (nI C &&& 31)) - 1) i = decide (i < C) := by decide +kernel
theorem nu_1023 : ∀ i, i < 32 → bt 1023 i = decide (i < 10) := by decide +kernel
/-! ===== positions of what was inlined (pure) ===== -/
def ps_n (gr : Nat → Nat) : Nat → Nat
  | 0 => 0
  | x + 1 => ps_n gr x + gr x
theorem ps_at {gr : Nat → Nat} : ∀ {n k : Nat}, k < ps_n gr n → ∃ x i, x < n ∧ i < gr x ∧ k = ps_n gr x + i
  | 0, k, h => by exact absurd h (Nat.not_lt_zero k)
  | n + 1, k, h => by
    rcases Nat.lt_or_ge k (ps_n gr n) with c | c
    · obtain ⟨x, i, a, b, e⟩ := ps_at c
      exact ⟨x, i, by omega, b, e⟩
    · refine ⟨n, k - ps_n gr n, by omega, ?_, by omega⟩
      have : k < ps_n gr n + gr n := h
      omega
theorem ps_mo {gr : Nat → Nat} {x : Nat} : ∀ {y : Nat}, x ≤ y → ps_n gr x ≤ ps_n gr y
  | 0, h => by have : x = 0 := by omega
               subst this; exact Nat.le_refl _
  | y + 1, h => by
    rcases Nat.lt_or_ge x (y + 1) with c | c
    · have := ps_mo (gr := gr) (x := x) (y := y) (by omega)
      show ps_n gr x ≤ ps_n gr y + gr y
      omega
    · have : x = y + 1 := by omega
      subst this; exact Nat.le_refl _
theorem ps_4 {gr : Nat → Nat} (h : ∀ x, gr x ≤ 4) : ∀ x, ps_n gr x ≤ 4 * x
  | 0 => Nat.le_refl 0
  | x + 1 => by
    have := ps_4 h x
    have := h x
    show ps_n gr x + gr x ≤ 4 * (x + 1)
    omega
theorem ps_c {gr gr' : Nat → Nat} : ∀ {x : Nat}, (∀ y, y < x → gr y = gr' y) → ps_n gr x = ps_n gr' x
  | 0, _ => rfl
  | x + 1, h => by
    show ps_n gr x + gr x = ps_n gr' x + gr' x
    rw [ps_c (fun y hy => h y (by omega)), h x (by omega)]
