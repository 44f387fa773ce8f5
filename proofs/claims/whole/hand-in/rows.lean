section
theorem pk_us {f : Nat → Int32} {k : Nat} {x : Int32} : upd f k x k = x := if_pos rfl
theorem pk_un {f : Nat → Int32} {k j : Nat} {x : Int32} (h : j ≠ k) : upd f k x j = f j := if_neg h
theorem pk_sub {a b : Nat} (h : b ≤ a) : nI a - nI b = nI (a - b) := by
  obtain ⟨c, rfl⟩ : ∃ c, a = c + b := ⟨a - b, by omega⟩
  rw [← nI_add, Int32.add_sub_cancel, Nat.add_sub_cancel]
theorem pk_m1 (n : Nat) : nI (n + 1) + (-1) = nI n := by
  rw [← nI_1, Int32.add_assoc, show (1 : Int32) + (-1) = 0 from rfl, Int32.add_zero]
theorem pk_mul (a b : Nat) : nI a * nI b = nI (a * b) := (Int32.ofNat_mul a b).symm
theorem pk_div {a d : Nat} (ha : a < 2 ^ 31) (h0 : 0 < d) (hd : d < 2 ^ 31) : nI a / nI d = nI (a / d) := by
  apply Int32.toInt_inj.mp
  rw [lg_idiv_nonneg (by rw [nI_toInt ha]; omega) (by rw [nI_toInt hd]; omega), nI_toInt ha, nI_toInt hd, nI_toInt (Nat.lt_of_le_of_lt (Nat.div_le_self a d) ha)]
  first | rfl | exact (Int.natCast_ediv _ _).symm
theorem pk_rem {a d : Nat} (ha : a < 2 ^ 31) (h0 : 0 < d) (hd : d < 2 ^ 31) : nI a - nI a / nI d * nI d = nI (a % d) := by
  rw [pk_div ha h0 hd, pk_mul, pk_sub (Nat.div_mul_le_self a d)]
  exact congrArg nI (by have := Nat.div_add_mod' a d; omega)
theorem pk_ix (x : Int32) {n : Nat} (hn : n < 2 ^ 31) : x < 0 ∨ nI n ≤ x ∨ ∃ j : Nat, j < n ∧ x = nI j := by
  by_cases h : x < 0
  · exact Or.inl h
  · obtain ⟨j, hj, rfl⟩ := nI_of h
    by_cases h2 : j < n
    · exact Or.inr (Or.inr ⟨j, h2, rfl⟩)
    · exact Or.inr (Or.inl (nI_le (by omega) hj))
theorem pk_le {x y : Int32} {A B : Prop} (a b : Nat) (f : a ≤ b → A) (g : b < a → B) (hx : x = nI a := by rfl) (hy : y = nI b := by rfl) (ha : a < 2 ^ 31 := by omega) (hb : b < 2 ^ 31 := by omega) : (x ≤ y → A) ∧ (¬ x ≤ y → B) := by
  subst hx hy
  rw [nI_leI ha hb]
  exact ⟨f, fun z => g (by omega)⟩
theorem pk_lt {x y : Int32} {A B : Prop} (a b : Nat) (f : a < b → A) (g : b ≤ a → B) (hx : x = nI a := by rfl) (hy : y = nI b := by rfl) (ha : a < 2 ^ 31 := by omega) (hb : b < 2 ^ 31 := by omega) : (x < y → A) ∧ (¬ x < y → B) := by
  subst hx hy
  rw [nI_ltI ha hb]
  exact ⟨f, fun z => g (by omega)⟩
theorem pk_eq {x y : Int32} {A B : Prop} (a b : Nat) (f : a = b → A) (g : a ≠ b → B) (hx : x = nI a := by rfl) (hy : y = nI b := by rfl) (ha : a < 2 ^ 31 := by omega) (hb : b < 2 ^ 31 := by omega) : (x = y → A) ∧ (¬ x = y → B) := by
  subst hx hy
  rw [nI_eq ha hb]
  exact ⟨f, g⟩
theorem pk_in {x : Int32} (n N : Nat) (h : n < N) (hx : x = nI n := by rfl) (hN : N < 2 ^ 31 := by omega) : vp_in x N := by
  subst hx
  exact vp_in_nI h hN
theorem pk_cl {x : Int32} (n : Nat) (hx : x = nI n := by rfl) (h : n < 2 ^ 31 := by omega) : x.toNatClampNeg = n := by
  subst hx
  exact nI_clamp h
theorem pk_tn {n : Nat} (h : n < 2 ^ 32) : (nI n).toBitVec.toNat = n := Nat.mod_eq_of_lt h
theorem pk_and (x : Int32) {m : Int32} (k : Nat) (hm : m.toBitVec.toNat = 2 ^ k - 1) : x &&& m = nI (x.toBitVec.toNat % 2 ^ k) := by
  apply Int32.toBitVec_inj.mp
  apply BitVec.eq_of_toNat_eq
  rw [Int32.toBitVec_and, BitVec.toNat_and, hm, Nat.and_two_pow_sub_one_eq_mod]
  show _ = (BitVec.ofNat 32 _).toNat
  rw [BitVec.toNat_ofNat]
  exact (Nat.mod_eq_of_lt (Nat.lt_of_le_of_lt (Nat.mod_le _ _) x.toBitVec.isLt)).symm
theorem pk_andE (x : Int32) {m : Int32} (k : Nat) (hm : m.toBitVec.toNat = 2 ^ k - 1) : ∃ j : Nat, j < 2 ^ k ∧ x &&& m = nI j := ⟨_, Nat.mod_lt _ (Nat.two_pow_pos k), pk_and x k hm⟩
theorem pk_loop {σ : Type} (W : Nat → Nat → σ → Prop) (I : Nat → σ → Prop) (e i0 : Nat) (s : σ) (hi : i0 ≤ e) (h0 : I i0 s) (hx : ∀ n s, I e s → W (n + 1) e s)
    (hs : ∀ n i s, i < e → I i s → (∀ s', I (i + 1) s' → W n (i + 1) s') → W (n + 1) i s) : ∃ n, W n i0 s :=
  ⟨e + 1, loop_i W I e hx hs (e + 1) i0 s hi (by omega) h0⟩
theorem pk_loopD {σ : Type} (W : Nat → Nat → σ → Prop) (I : Nat → σ → Prop) (hx : ∀ n s, I 0 s → W (n + 1) 0 s)
    (hs : ∀ n i s, I (i + 1) s → (∀ s', I i s' → W n i s') → W (n + 1) (i + 1) s) : ∀ (e : Nat) (s : σ), I e s → W (e + 1) e s := by
  intro e
  induction e with
  | zero => exact fun s h => hx 0 s h
  | succ e ih => exact fun s h => hs (e + 1) e s h (fun s' h' => ih s' h')
theorem lp1 {A1 : Type} (W : Nat → A1 → Prop) (I : A1 → Prop) (μ : A1 → Nat) (hs : ∀ (n : Nat) (a1 : A1), I a1 → (∀ (b1 : A1), I b1 → μ b1 < μ a1 → W n b1) → W (n + 1) a1) (a1 : A1) (h : I a1) : ∃ n, W n a1 :=
  loop_m (σ := A1) (fun n s => W n s) (fun s => I s) (fun s => μ s) (fun n s hI hk => hs n s hI (fun b1 h9 hm => hk b1 h9 hm)) a1 h
theorem lp2 {A1 A2 : Type} (W : Nat → A1 → A2 → Prop) (I : A1 → A2 → Prop) (μ : A1 → A2 → Nat) (hs : ∀ (n : Nat) (a1 : A1) (a2 : A2), I a1 a2 → (∀ (b1 : A1) (b2 : A2), I b1 b2 → μ b1 b2 < μ a1 a2 → W n b1 b2) → W (n + 1) a1 a2) (a1 : A1) (a2 : A2) (h : I a1 a2) : ∃ n, W n a1 a2 :=
  loop_m (σ := A1 × A2) (fun n s => W n s.1 s.2) (fun s => I s.1 s.2) (fun s => μ s.1 s.2) (fun n s hI hk => hs n s.1 s.2 hI (fun b1 b2 h9 hm => hk (b1, b2) h9 hm)) (a1, a2) h
theorem lp3 {A1 A2 A3 : Type} (W : Nat → A1 → A2 → A3 → Prop) (I : A1 → A2 → A3 → Prop) (μ : A1 → A2 → A3 → Nat) (hs : ∀ (n : Nat) (a1 : A1) (a2 : A2) (a3 : A3), I a1 a2 a3 → (∀ (b1 : A1) (b2 : A2) (b3 : A3), I b1 b2 b3 → μ b1 b2 b3 < μ a1 a2 a3 → W n b1 b2 b3) → W (n + 1) a1 a2 a3) (a1 : A1) (a2 : A2) (a3 : A3) (h : I a1 a2 a3) : ∃ n, W n a1 a2 a3 :=
  loop_m (σ := A1 × A2 × A3) (fun n s => W n s.1 s.2.1 s.2.2) (fun s => I s.1 s.2.1 s.2.2) (fun s => μ s.1 s.2.1 s.2.2) (fun n s hI hk => hs n s.1 s.2.1 s.2.2 hI (fun b1 b2 b3 h9 hm => hk (b1, b2, b3) h9 hm)) (a1, a2, a3) h
theorem lp4 {A1 A2 A3 A4 : Type} (W : Nat → A1 → A2 → A3 → A4 → Prop) (I : A1 → A2 → A3 → A4 → Prop) (μ : A1 → A2 → A3 → A4 → Nat) (hs : ∀ (n : Nat) (a1 : A1) (a2 : A2) (a3 : A3) (a4 : A4), I a1 a2 a3 a4 → (∀ (b1 : A1) (b2 : A2) (b3 : A3) (b4 : A4), I b1 b2 b3 b4 → μ b1 b2 b3 b4 < μ a1 a2 a3 a4 → W n b1 b2 b3 b4) → W (n + 1) a1 a2 a3 a4) (a1 : A1) (a2 : A2) (a3 : A3) (a4 : A4) (h : I a1 a2 a3 a4) : ∃ n, W n a1 a2 a3 a4 :=
  loop_m (σ := A1 × A2 × A3 × A4) (fun n s => W n s.1 s.2.1 s.2.2.1 s.2.2.2) (fun s => I s.1 s.2.1 s.2.2.1 s.2.2.2) (fun s => μ s.1 s.2.1 s.2.2.1 s.2.2.2) (fun n s hI hk => hs n s.1 s.2.1 s.2.2.1 s.2.2.2 hI (fun b1 b2 b3 b4 h9 hm => hk (b1, b2, b3, b4) h9 hm)) (a1, a2, a3, a4) h
theorem lp5 {A1 A2 A3 A4 A5 : Type} (W : Nat → A1 → A2 → A3 → A4 → A5 → Prop) (I : A1 → A2 → A3 → A4 → A5 → Prop) (μ : A1 → A2 → A3 → A4 → A5 → Nat) (hs : ∀ (n : Nat) (a1 : A1) (a2 : A2) (a3 : A3) (a4 : A4) (a5 : A5), I a1 a2 a3 a4 a5 → (∀ (b1 : A1) (b2 : A2) (b3 : A3) (b4 : A4) (b5 : A5), I b1 b2 b3 b4 b5 → μ b1 b2 b3 b4 b5 < μ a1 a2 a3 a4 a5 → W n b1 b2 b3 b4 b5) → W (n + 1) a1 a2 a3 a4 a5) (a1 : A1) (a2 : A2) (a3 : A3) (a4 : A4) (a5 : A5) (h : I a1 a2 a3 a4 a5) : ∃ n, W n a1 a2 a3 a4 a5 :=
  loop_m (σ := A1 × A2 × A3 × A4 × A5) (fun n s => W n s.1 s.2.1 s.2.2.1 s.2.2.2.1 s.2.2.2.2) (fun s => I s.1 s.2.1 s.2.2.1 s.2.2.2.1 s.2.2.2.2) (fun s => μ s.1 s.2.1 s.2.2.1 s.2.2.2.1 s.2.2.2.2) (fun n s hI hk => hs n s.1 s.2.1 s.2.2.1 s.2.2.2.1 s.2.2.2.2 hI (fun b1 b2 b3 b4 b5 h9 hm => hk (b1, b2, b3, b4, b5) h9 hm)) (a1, a2, a3, a4, a5) h
theorem lp6 {A1 A2 A3 A4 A5 A6 : Type} (W : Nat → A1 → A2 → A3 → A4 → A5 → A6 → Prop) (I : A1 → A2 → A3 → A4 → A5 → A6 → Prop) (μ : A1 → A2 → A3 → A4 → A5 → A6 → Nat) (hs : ∀ (n : Nat) (a1 : A1) (a2 : A2) (a3 : A3) (a4 : A4) (a5 : A5) (a6 : A6), I a1 a2 a3 a4 a5 a6 → (∀ (b1 : A1) (b2 : A2) (b3 : A3) (b4 : A4) (b5 : A5) (b6 : A6), I b1 b2 b3 b4 b5 b6 → μ b1 b2 b3 b4 b5 b6 < μ a1 a2 a3 a4 a5 a6 → W n b1 b2 b3 b4 b5 b6) → W (n + 1) a1 a2 a3 a4 a5 a6) (a1 : A1) (a2 : A2) (a3 : A3) (a4 : A4) (a5 : A5) (a6 : A6) (h : I a1 a2 a3 a4 a5 a6) : ∃ n, W n a1 a2 a3 a4 a5 a6 :=
  loop_m (σ := A1 × A2 × A3 × A4 × A5 × A6) (fun n s => W n s.1 s.2.1 s.2.2.1 s.2.2.2.1 s.2.2.2.2.1 s.2.2.2.2.2) (fun s => I s.1 s.2.1 s.2.2.1 s.2.2.2.1 s.2.2.2.2.1 s.2.2.2.2.2) (fun s => μ s.1 s.2.1 s.2.2.1 s.2.2.2.1 s.2.2.2.2.1 s.2.2.2.2.2) (fun n s hI hk => hs n s.1 s.2.1 s.2.2.1 s.2.2.2.1 s.2.2.2.2.1 s.2.2.2.2.2 hI (fun b1 b2 b3 b4 b5 b6 h9 hm => hk (b1, b2, b3, b4, b5, b6) h9 hm)) (a1, a2, a3, a4, a5, a6) h
theorem lp7 {A1 A2 A3 A4 A5 A6 A7 : Type} (W : Nat → A1 → A2 → A3 → A4 → A5 → A6 → A7 → Prop) (I : A1 → A2 → A3 → A4 → A5 → A6 → A7 → Prop) (μ : A1 → A2 → A3 → A4 → A5 → A6 → A7 → Nat) (hs : ∀ (n : Nat) (a1 : A1) (a2 : A2) (a3 : A3) (a4 : A4) (a5 : A5) (a6 : A6) (a7 : A7), I a1 a2 a3 a4 a5 a6 a7 → (∀ (b1 : A1) (b2 : A2) (b3 : A3) (b4 : A4) (b5 : A5) (b6 : A6) (b7 : A7), I b1 b2 b3 b4 b5 b6 b7 → μ b1 b2 b3 b4 b5 b6 b7 < μ a1 a2 a3 a4 a5 a6 a7 → W n b1 b2 b3 b4 b5 b6 b7) → W (n + 1) a1 a2 a3 a4 a5 a6 a7) (a1 : A1) (a2 : A2) (a3 : A3) (a4 : A4) (a5 : A5) (a6 : A6) (a7 : A7) (h : I a1 a2 a3 a4 a5 a6 a7) : ∃ n, W n a1 a2 a3 a4 a5 a6 a7 :=
  loop_m (σ := A1 × A2 × A3 × A4 × A5 × A6 × A7) (fun n s => W n s.1 s.2.1 s.2.2.1 s.2.2.2.1 s.2.2.2.2.1 s.2.2.2.2.2.1 s.2.2.2.2.2.2) (fun s => I s.1 s.2.1 s.2.2.1 s.2.2.2.1 s.2.2.2.2.1 s.2.2.2.2.2.1 s.2.2.2.2.2.2) (fun s => μ s.1 s.2.1 s.2.2.1 s.2.2.2.1 s.2.2.2.2.1 s.2.2.2.2.2.1 s.2.2.2.2.2.2) (fun n s hI hk => hs n s.1 s.2.1 s.2.2.1 s.2.2.2.1 s.2.2.2.2.1 s.2.2.2.2.2.1 s.2.2.2.2.2.2 hI (fun b1 b2 b3 b4 b5 b6 b7 h9 hm => hk (b1, b2, b3, b4, b5, b6, b7) h9 hm)) (a1, a2, a3, a4, a5, a6, a7) h
theorem lp8 {A1 A2 A3 A4 A5 A6 A7 A8 : Type} (W : Nat → A1 → A2 → A3 → A4 → A5 → A6 → A7 → A8 → Prop) (I : A1 → A2 → A3 → A4 → A5 → A6 → A7 → A8 → Prop) (μ : A1 → A2 → A3 → A4 → A5 → A6 → A7 → A8 → Nat) (hs : ∀ (n : Nat) (a1 : A1) (a2 : A2) (a3 : A3) (a4 : A4) (a5 : A5) (a6 : A6) (a7 : A7) (a8 : A8), I a1 a2 a3 a4 a5 a6 a7 a8 → (∀ (b1 : A1) (b2 : A2) (b3 : A3) (b4 : A4) (b5 : A5) (b6 : A6) (b7 : A7) (b8 : A8), I b1 b2 b3 b4 b5 b6 b7 b8 → μ b1 b2 b3 b4 b5 b6 b7 b8 < μ a1 a2 a3 a4 a5 a6 a7 a8 → W n b1 b2 b3 b4 b5 b6 b7 b8) → W (n + 1) a1 a2 a3 a4 a5 a6 a7 a8) (a1 : A1) (a2 : A2) (a3 : A3) (a4 : A4) (a5 : A5) (a6 : A6) (a7 : A7) (a8 : A8) (h : I a1 a2 a3 a4 a5 a6 a7 a8) : ∃ n, W n a1 a2 a3 a4 a5 a6 a7 a8 :=
  loop_m (σ := A1 × A2 × A3 × A4 × A5 × A6 × A7 × A8) (fun n s => W n s.1 s.2.1 s.2.2.1 s.2.2.2.1 s.2.2.2.2.1 s.2.2.2.2.2.1 s.2.2.2.2.2.2.1 s.2.2.2.2.2.2.2) (fun s => I s.1 s.2.1 s.2.2.1 s.2.2.2.1 s.2.2.2.2.1 s.2.2.2.2.2.1 s.2.2.2.2.2.2.1 s.2.2.2.2.2.2.2) (fun s => μ s.1 s.2.1 s.2.2.1 s.2.2.2.1 s.2.2.2.2.1 s.2.2.2.2.2.1 s.2.2.2.2.2.2.1 s.2.2.2.2.2.2.2) (fun n s hI hk => hs n s.1 s.2.1 s.2.2.1 s.2.2.2.1 s.2.2.2.2.1 s.2.2.2.2.2.1 s.2.2.2.2.2.2.1 s.2.2.2.2.2.2.2 hI (fun b1 b2 b3 b4 b5 b6 b7 b8 h9 hm => hk (b1, b2, b3, b4, b5, b6, b7, b8) h9 hm)) (a1, a2, a3, a4, a5, a6, a7, a8) h
theorem pk_least (P : Nat → Prop) (h : ∃ k, P k) : ∃ k, P k ∧ ∀ j, j < k → ¬ P j := by
  obtain ⟨k, hk⟩ := h
  induction k using Nat.strongRecOn with
  | ind k ih =>
    by_cases e : ∃ j, j < k ∧ P j
    · obtain ⟨j, hj, pj⟩ := e
      exact ih j hj pj
    · exact ⟨k, hk, fun j hj pj => e ⟨j, hj, pj⟩⟩
theorem ek_if {c d A B : Prop} (e : c ↔ d) (f : d → A) (g : ¬ d → B) : (c → A) ∧ (¬ c → B) :=
  ⟨fun z => f (e.mp z), fun z => g (fun y => z (e.mpr y))⟩
theorem ek_v {α : Sort _} {P : α → Prop} {a b : α} (e : a = b) (h : P b) : P a := e ▸ h
theorem pk_mu {x : Int32} {L : Nat} (h0 : ¬ x < 0) (h : ¬ nI L ≤ x) (hL : L < 2 ^ 31) : ∃ j : Nat, j < L ∧ x = nI j ∧ x + 1 = nI (j + 1) ∧ x.toNatClampNeg = j ∧ L - (x + 1).toNatClampNeg < L - x.toNatClampNeg := by
  obtain ⟨j, hj, rfl⟩ := nI_of h0
  have hl : j < L := Nat.not_le.mp fun q => h (nI_le q hj)
  refine ⟨j, hl, rfl, nI_1 j, nI_clamp hj, ?_⟩
  rw [nI_1, nI_clamp (by omega), nI_clamp hj]
  omega
def bt (x : Int32) (i : Nat) : Bool := x.toBitVec.getLsbD i
theorem b_ext {x y : Int32} (h : ∀ i, i < 32 → bt x i = bt y i) : x = y := Int32.toBitVec_inj.mp (BitVec.eq_of_getLsbD_eq (fun i hi => h i hi))
theorem b_or (x y : Int32) (i : Nat) : bt (x ||| y) i = (bt x i || bt y i) := by unfold bt; rw [Int32.toBitVec_or, BitVec.getLsbD_or]
theorem b_and (x y : Int32) (i : Nat) : bt (x &&& y) i = (bt x i && bt y i) := by unfold bt; rw [Int32.toBitVec_and, BitVec.getLsbD_and]
theorem b_big {x : Int32} {i : Nat} (h : 32 ≤ i) : bt x i = false := BitVec.getLsbD_of_ge _ _ h
theorem b_m1 : ∀ i, i < 32 → bt (-1) i = true := by decide +kernel
theorem b_0 (i : Nat) : bt 0 i = false := BitVec.getLsbD_zero
theorem s_l : ∀ n, n < 32 → ((nI n &&& 31).toBitVec.smod 32).toNat = n := by decide +kernel
theorem b_shl (n : Nat) (hn : n < 32) (x : Int32) {i : Nat} (hi : i < 32) : bt (x <<< (nI n &&& 31)) i = (decide (n ≤ i) && bt x (i - n)) := by
  unfold bt
  rw [Int32.toBitVec_shiftLeft]
  show (x.toBitVec <<< ((nI n &&& 31).toBitVec.smod 32).toNat).getLsbD i = _
  rw [s_l n hn, BitVec.getLsbD_shiftLeft]
  rcases Nat.lt_or_ge i n with h | h
  · simp [h, Nat.not_le.mpr h]
  · simp [hi, h, Nat.not_lt.mpr h]
theorem b_sshr (n : Nat) (hn : n < 32) (x : Int32) {i : Nat} (hi : i < 32) : bt (x >>> (nI n &&& 31)) i = if n + i < 32 then bt x (n + i) else bt x 31 := by
  unfold bt
  rw [Int32.toBitVec_shiftRight]
  show (x.toBitVec.sshiftRight ((nI n &&& 31).toBitVec.smod 32).toNat).getLsbD i = _
  rw [s_l n hn, BitVec.getLsbD_sshiftRight, BitVec.msb_eq_getLsbD_last]
  simp [hi]
end
section
/-! ===== bits as sets ===== -/
theorem bq_one : ∀ i, i < 32 → bt 1 i = decide (i = 0) := by decide +kernel
theorem bq_1 {k : Nat} (hk : k < 32) (i : Nat) : bt ((1 : Int32) <<< (nI k &&& 31)) i = decide (i = k) := by
  rcases Nat.lt_or_ge i 32 with hi | hi
  · rw [b_shl k hk 1 hi]
    rcases Nat.lt_or_ge i k with h | h
    · have e1 : decide (k ≤ i) = false := decide_eq_false (by omega)
      have e2 : decide (i = k) = false := decide_eq_false (by omega)
      rw [e1, e2]; rfl
    · have e1 : decide (k ≤ i) = true := decide_eq_true h
      rw [bq_one (i - k) (by omega), e1, Bool.true_and]
      by_cases e : i = k
      · rw [decide_eq_true e, decide_eq_true (by omega : i - k = 0)]
      · rw [decide_eq_false e, decide_eq_false (by omega : ¬ i - k = 0)]
  · rw [b_big hi, decide_eq_false (by omega)]
theorem bq_sh (x : Int32) {k : Nat} (hk : k < 32) : (x >>> (nI k &&& 31)) &&& 1 = if bt x k = true then 1 else 0 := by
  apply b_ext
  intro i hi
  rw [b_and, b_sshr k hk x hi, bq_one i hi]
  by_cases e : i = 0
  · subst e
    rw [Nat.add_zero, if_pos hk]
    cases bt x k <;> decide +kernel
  · rw [decide_eq_false e, Bool.and_false]
    cases bt x k
    · exact (b_0 i).symm
    · exact ((bq_one i hi).trans (decide_eq_false e)).symm
theorem bq_0 (x : Int32) {k : Nat} (hk : k < 32) : (x >>> (nI k &&& 31)) &&& 1 = 0 ↔ ¬ bt x k = true := by
  rw [bq_sh x hk]
  by_cases h : bt x k = true
  · rw [if_pos h]; exact ⟨fun z => absurd z (by decide), fun z => absurd h z⟩
  · rw [if_neg h]; exact ⟨fun _ => h, fun _ => rfl⟩
theorem bq_t (x : Int32) {k : Nat} (hk : k < 32) : (x >>> (nI k &&& 31)) &&& 1 = 1 ↔ bt x k = true := by
  rw [bq_sh x hk]
  by_cases h : bt x k = true
  · rw [if_pos h]; exact ⟨fun _ => h, fun _ => rfl⟩
  · rw [if_neg h]; exact ⟨fun z => absurd z (by decide), fun z => absurd z h⟩
theorem bq_o1 (a : Int32) {k : Nat} (hk : k < 32) (i : Nat) : bt (a ||| ((1 : Int32) <<< (nI k &&& 31))) i = true ↔ bt a i = true ∨ i = k := by
  rw [b_or, bq_1 hk, Bool.or_eq_true, decide_eq_true_eq]
theorem bq_lt {a : Int32} {i : Nat} (h : bt a i = true) : i < 32 := by
  rcases Nat.lt_or_ge i 32 with g | g
  · exact g
  · rw [b_big g] at h; exact absurd h (by decide)
theorem bq_ze {a : Int32} : a = 0 ↔ ∀ i, ¬ bt a i = true := by
  constructor
  · intro h i z; subst h; rw [b_0] at z; exact absurd z (by decide)
  · intro h; apply b_ext; intro i _; rw [b_0]; exact Bool.eq_false_iff.mpr (h i)
def ss_le (a b : Int32) : Prop := ∀ i, bt a i = true → bt b i = true
theorem ss_rf (a : Int32) : ss_le a a := fun _ h => h
theorem ss_tr {a b c : Int32} (h : ss_le a b) (g : ss_le b c) : ss_le a c := fun i z => g i (h i z)
theorem ss_as {a b : Int32} (h : ss_le a b) (g : ss_le b a) : a = b := b_ext (fun i _ => Bool.eq_iff_iff.mpr ⟨h i, g i⟩)
theorem ss_ol (a b : Int32) : ss_le a (a ||| b) := fun i h => by rw [b_or, h]; rfl
theorem ss_or (a b : Int32) : ss_le b (a ||| b) := fun i h => by rw [b_or, h]; exact Bool.or_true _
theorem ss_ou {a b c : Int32} (h : ss_le a c) (g : ss_le b c) : ss_le (a ||| b) c := fun i z => by
  rw [b_or, Bool.or_eq_true] at z
  exact z.elim (h i) (g i)
theorem ss_z (a : Int32) : ss_le 0 a := fun i h => by rw [b_0] at h; exact absurd h (by decide)
theorem ss_o1 {a b : Int32} {k : Nat} (hk : k < 32) (h : ss_le a b) (g : bt b k = true) : ss_le (a ||| ((1 : Int32) <<< (nI k &&& 31))) b := fun i z => by
  rcases (bq_o1 a hk i).mp z with y | y
  · exact h i y
  · subst y; exact g
/-! ===== counting ===== -/
def pc_n (p : Nat → Bool) : Nat → Nat
  | 0 => 0
  | n + 1 => pc_n p n + (if p n = true then 1 else 0)
theorem pc_le (p : Nat → Bool) : ∀ n, pc_n p n ≤ n
  | 0 => Nat.le_refl 0
  | n + 1 => by
    have := pc_le p n
    show pc_n p n + (if p n = true then 1 else 0) ≤ n + 1
    split <;> omega
theorem pc_mo {p q : Nat → Bool} {n : Nat} (h : ∀ i, i < n → p i = true → q i = true) : pc_n p n ≤ pc_n q n := by
  induction n with
  | zero => exact Nat.le_refl 0
  | succ n ih =>
    have := ih (fun i hi => h i (by omega))
    have a := h n (by omega)
    show pc_n p n + (if p n = true then 1 else 0) ≤ pc_n q n + (if q n = true then 1 else 0)
    by_cases e : p n = true
    · rw [if_pos e, if_pos (a e)]; omega
    · rw [if_neg e]; split <;> omega
theorem pc_lt {p q : Nat → Bool} {n i : Nat} (h : ∀ i, i < n → p i = true → q i = true) (hi : i < n) (hq : q i = true) (hp : ¬ p i = true) : pc_n p n < pc_n q n := by
  induction n with
  | zero => omega
  | succ n ih =>
    have a := h n (by omega)
    have m := pc_mo (fun i hi => h i (by omega) : ∀ i, i < n → p i = true → q i = true)
    show pc_n p n + (if p n = true then 1 else 0) < pc_n q n + (if q n = true then 1 else 0)
    rcases Nat.lt_or_ge i n with g | g
    · have := ih (fun i hi => h i (by omega)) g
      by_cases e : p n = true
      · rw [if_pos e, if_pos (a e)]; omega
      · rw [if_neg e]; split <;> omega
    · have e : i = n := by omega
      subst e
      rw [if_neg hp, if_pos hq]; omega
theorem pc_full {p : Nat → Bool} {n : Nat} (h : n ≤ pc_n p n) : ∀ i, i < n → p i = true := by
  induction n with
  | zero => intro i hi; omega
  | succ n ih =>
    have l := pc_le p n
    have e : pc_n p (n + 1) = pc_n p n + (if p n = true then 1 else 0) := rfl
    rw [e] at h
    by_cases c : p n = true
    · rw [if_pos c] at h
      intro i hi
      rcases Nat.lt_or_ge i n with g | g
      · exact ih (by omega) i g
      · have : i = n := by omega
        subst this; exact c
    · rw [if_neg c] at h; omega
def pc_b (a : Int32) : Nat := pc_n (bt a) 32
theorem pc_b32 (a : Int32) : pc_b a ≤ 32 := pc_le _ 32
theorem pc_bm {a b : Int32} (h : ss_le a b) : pc_b a ≤ pc_b b := pc_mo (fun i _ => h i)
theorem pc_bl {a b : Int32} (h : ss_le a b) (e : ¬ a = b) : pc_b a < pc_b b := by
  by_cases c : ∃ i, bt b i = true ∧ ¬ bt a i = true
  · obtain ⟨i, h1, h2⟩ := c
    exact pc_lt (fun i _ => h i) (bq_lt h1) h1 h2
  · exact absurd (ss_as h (fun i z => Decidable.byContradiction (fun y => c ⟨i, z, y⟩))) e
/-! ===== pigeonholes ===== -/
theorem pg_h : ∀ (k : Nat) (f : Nat → Nat), ¬ (∀ n, n < k + 1 → ∃ g, g < k ∧ f g = n)
  | 0, f, h => by obtain ⟨g, hg, _⟩ := h 0 (by omega); omega
  | k + 1, f, h => by
    refine pg_h k (fun g => if f k < f g then f g - 1 else f g) (fun n hn => ?_)
    rcases Nat.lt_or_ge n (f k) with c | c
    · obtain ⟨g, hg, e⟩ := h n (by omega)
      have : g ≠ k := fun z => by subst z; omega
      refine ⟨g, by omega, ?_⟩
      show (if f k < f g then f g - 1 else f g) = n
      rw [if_neg (by omega)]; exact e
    · obtain ⟨g, hg, e⟩ := h (n + 1) (by omega)
      have : g ≠ k := fun z => by subst z; omega
      refine ⟨g, by omega, ?_⟩
      show (if f k < f g then f g - 1 else f g) = n
      rw [if_pos (by omega)]; omega
theorem pg_x (K : Nat) (f : Nat → Nat) (x : Nat) (hx : x < K) : ¬ (∀ n, n < K → ∃ g, g < K ∧ g ≠ x ∧ f g = n) := by
  intro h
  refine pg_h (K - 1) (fun g => f (if g < x then g else g + 1)) (fun n hn => ?_)
  obtain ⟨g, hg, gx, e⟩ := h n (by omega)
  rcases Nat.lt_or_ge g x with c | c
  · refine ⟨g, by omega, ?_⟩
    show f (if g < x then g else g + 1) = n
    rw [if_pos c]; exact e
  · refine ⟨g - 1, by omega, ?_⟩
    show f (if g - 1 < x then g - 1 else g - 1 + 1) = n
    rw [if_neg (by omega), show g - 1 + 1 = g from by omega]; exact e
/-! ===== the first and the last with a property; an Option as an int ===== -/
def oI : Option Nat → Int32
  | none => -1
  | some m => nI m
def sc_f (p : Nat → Bool) : Nat → Option Nat
  | 0 => none
  | n + 1 => match sc_f p n with
    | some m => some m
    | none => if p n = true then some n else none
def sc_l (p : Nat → Bool) : Nat → Option Nat
  | 0 => none
  | n + 1 => if p n = true then some n else sc_l p n
theorem sc_fs (p : Nat → Bool) (n : Nat) : sc_f p (n + 1) = match sc_f p n with
    | some m => some m
    | none => if p n = true then some n else none := rfl
theorem sc_ls (p : Nat → Bool) (n : Nat) : sc_l p (n + 1) = if p n = true then some n else sc_l p n := rfl
theorem sc_fn {p : Nat → Bool} : ∀ {n : Nat}, sc_f p n = none → ∀ j, j < n → ¬ p j = true
  | 0, _, j, hj => by omega
  | n + 1, h, j, hj => by
    rw [sc_fs] at h
    cases e : sc_f p n with
    | some m => rw [e] at h; exact absurd h (by simp)
    | none =>
      rw [e] at h
      by_cases c : p n = true
      · simp [c] at h
      · rcases Nat.lt_or_ge j n with g | g
        · exact sc_fn e j g
        · have : j = n := by omega
          subst this; exact c
theorem sc_fe {p : Nat → Bool} : ∀ {n m : Nat}, sc_f p n = some m → m < n ∧ p m = true ∧ ∀ j, j < m → ¬ p j = true
  | 0, m, h => by exact absurd h (by simp [sc_f])
  | n + 1, m, h => by
    rw [sc_fs] at h
    cases e : sc_f p n with
    | some k =>
      rw [e] at h
      have hk : k = m := by simpa using h
      subst hk
      obtain ⟨a, b, c⟩ := sc_fe e
      exact ⟨by omega, b, c⟩
    | none =>
      rw [e] at h
      by_cases c : p n = true
      · have hk : n = m := by simpa [c] using h
        subst hk
        exact ⟨by omega, c, fun j hj => sc_fn e j hj⟩
      · simp [c] at h
theorem sc_ln {p : Nat → Bool} : ∀ {n : Nat}, sc_l p n = none → ∀ j, j < n → ¬ p j = true
  | 0, _, j, hj => by omega
  | n + 1, h, j, hj => by
    rw [sc_ls] at h
    by_cases c : p n = true
    · simp [c] at h
    · rw [if_neg c] at h
      rcases Nat.lt_or_ge j n with g | g
      · exact sc_ln h j g
      · have : j = n := by omega
        subst this; exact c
theorem sc_le {p : Nat → Bool} : ∀ {n m : Nat}, sc_l p n = some m → m < n ∧ p m = true ∧ ∀ j, m < j → j < n → ¬ p j = true
  | 0, m, h => by exact absurd h (by simp [sc_l])
  | n + 1, m, h => by
    rw [sc_ls] at h
    by_cases c : p n = true
    · have hk : n = m := by simpa [c] using h
      subst hk
      exact ⟨by omega, c, fun j h1 h2 => by omega⟩
    · rw [if_neg c] at h
      obtain ⟨a, b, d⟩ := sc_le h
      refine ⟨by omega, b, fun j h1 h2 => ?_⟩
      rcases Nat.lt_or_ge j n with g | g
      · exact d j h1 g
      · have : j = n := by omega
        subst this; exact c
theorem sc_fI {p : Nat → Bool} {n m : Nat} (h1 : m < n) (h2 : p m = true) (h3 : ∀ j, j < m → ¬ p j = true) : sc_f p n = some m := by
  cases e : sc_f p n with
  | none => exact absurd h2 (sc_fn e m h1)
  | some k =>
    obtain ⟨a, b, c⟩ := sc_fe e
    rcases Nat.lt_trichotomy k m with g | g | g
    · exact absurd b (h3 k g)
    · rw [g]
    · exact absurd h2 (c m g)
theorem sc_lI {p : Nat → Bool} {n m : Nat} (h1 : m < n) (h2 : p m = true) (h3 : ∀ j, m < j → j < n → ¬ p j = true) : sc_l p n = some m := by
  cases e : sc_l p n with
  | none => exact absurd h2 (sc_ln e m h1)
  | some k =>
    obtain ⟨a, b, c⟩ := sc_le e
    rcases Nat.lt_trichotomy k m with g | g | g
    · exact absurd h2 (c m g h1)
    · rw [g]
    · exact absurd b (h3 k g a)
theorem sc_fN {p : Nat → Bool} {n : Nat} (h : ∀ j, j < n → ¬ p j = true) : sc_f p n = none := by
  cases e : sc_f p n with
  | none => rfl
  | some k => exact absurd (sc_fe e).2.1 (h k (sc_fe e).1)
theorem sc_lN {p : Nat → Bool} {n : Nat} (h : ∀ j, j < n → ¬ p j = true) : sc_l p n = none := by
  cases e : sc_l p n with
  | none => rfl
  | some k => exact absurd (sc_le e).2.1 (h k (sc_le e).1)
theorem sc_lc {p q : Nat → Bool} : ∀ {n : Nat}, (∀ j, j < n → p j = q j) → sc_l p n = sc_l q n
  | 0, _ => rfl
  | n + 1, h => by rw [sc_ls, sc_ls, h n (by omega), sc_lc (fun j hj => h j (by omega))]
theorem sc_fc {p q : Nat → Bool} : ∀ {n : Nat}, (∀ j, j < n → p j = q j) → sc_f p n = sc_f q n
  | 0, _ => rfl
  | n + 1, h => by rw [sc_fs, sc_fs, h n (by omega), sc_fc (fun j hj => h j (by omega))]
theorem oI_n {m : Nat} (h : m < 2 ^ 31) : ¬ nI m = -1 := by
  intro e
  have := congrArg Int32.toInt e
  rw [nI_toInt h, show (-1 : Int32).toInt = -1 from by decide] at this
  omega
theorem oI_neg {m : Nat} (h : m < 2 ^ 31) : ¬ nI m < 0 := nI_pos h
theorem oI_in {a b : Option Nat} (ha : ∀ m, a = some m → m < 2 ^ 31) (hb : ∀ m, b = some m → m < 2 ^ 31) : oI a = oI b ↔ a = b := by
  cases a with
  | none =>
    cases b with
    | none => exact ⟨fun _ => rfl, fun _ => rfl⟩
    | some k => exact ⟨fun z => absurd z.symm (oI_n (hb k rfl)), fun z => absurd z (by simp)⟩
  | some j =>
    cases b with
    | none => exact ⟨fun z => absurd z (oI_n (ha j rfl)), fun z => absurd z (by simp)⟩
    | some k => exact ⟨fun z => congrArg some ((nI_eq (ha j rfl) (hb k rfl)).mp z), fun z => by rw [z]⟩
end
section
/-! ===== classes, what they find (pure) =====
C classes, M methods; anc, chn: sets as ints; par: the parent or -1; hm: the home; q: bears the name sought -/
def hq_t (x : Int32) : Nat := x.toNatClampNeg
theorem hq_e {n : Nat} (h : n < 2 ^ 31) : hq_t (nI n) = n := nI_clamp h
/-- the hierarchy of the classes below C -/
def hi_ok (C : Nat) (ifc anc chn par : Nat → Int32) : Prop :=
  C ≤ 10 ∧ ∀ c, c < C →
    bt (anc c) c = true ∧ (∀ i, bt (anc c) i = true → i ≤ c) ∧
    (∀ i j, bt (anc c) i = true → bt (anc i) j = true → bt (anc c) j = true) ∧
    (∀ i, bt (chn c) i = true → bt (anc c) i = true) ∧
    (∀ i, bt (anc c) i = true → ¬ bt (chn c) i = true → ¬ ifc i = 0) ∧
    ((par c = -1 ∧ ∀ i, bt (chn c) i = true ↔ i = c) ∨
      ∃ p, p < c ∧ par c = nI p ∧ ifc p = 0 ∧ (∀ i, bt (chn c) i = true ↔ i = c ∨ bt (chn p) i = true))
/-- the methods below M -/
def mh_ok (C M : Nat) (hom : Nat → Int32) : Prop :=
  M ≤ 30 ∧ (∀ m, m < M → ∃ c, c < C ∧ hom m = nI c) ∧ (∀ a b, a < b → b < M → hq_t (hom a) ≤ hq_t (hom b))
theorem mh_h {C M : Nat} {hom : Nat → Int32} (h : mh_ok C M hom) (hC : C ≤ 10) {m : Nat} (hm : m < M) : hom m = nI (hq_t (hom m)) ∧ hq_t (hom m) < C := by
  obtain ⟨c, hc, e⟩ := h.2.1 m hm
  rw [e, hq_e (by omega)]
  exact ⟨rfl, hc⟩
/-- what c finds among those with q: the last of the chain, else the first of the ancestors -/
def fd_v (M : Nat) (anc chn hom : Nat → Int32) (q : Nat → Bool) (c : Nat) : Option Nat :=
  match sc_l (fun m => q m && bt (chn c) (hq_t (hom m))) M with
  | some m => some m
  | none => sc_f (fun m => q m && bt (anc c) (hq_t (hom m))) M
/-- one of one home and name at the most -/
def un_ok (M : Nat) (hom : Nat → Int32) (q : Nat → Bool) : Prop :=
  ∀ a b, a < M → b < M → q a = true → q b = true → hq_t (hom a) = hq_t (hom b) → a = b
def dc_v (M : Nat) (hom : Nat → Int32) (q : Nat → Bool) (c : Nat) : Option Nat := sc_f (fun m => decide (hq_t (hom m) = c) && q m) M
theorem bb_a {a b : Bool} : (a && b) = true ↔ a = true ∧ b = true := Bool.and_eq_true_iff
theorem hi_cl {C : Nat} {ifc anc chn par : Nat → Int32} (h : hi_ok C ifc anc chn par) {c i : Nat} (hc : c < C) (hi : bt (chn c) i = true) : i ≤ c :=
  (h.2 c hc).2.1 i ((h.2 c hc).2.2.2.1 i hi)
/-- a chain's step: found at c itself -/
theorem ch_s {C M : Nat} {ifc anc chn par hom : Nat → Int32} {q : Nat → Bool} (h : hi_ok C ifc anc chn par) (g : mh_ok C M hom) (u : un_ok M hom q) {c m : Nat} (hc : c < C)
    (hm : dc_v M hom q c = some m) : sc_l (fun m => q m && bt (chn c) (hq_t (hom m))) M = some m := by
  obtain ⟨a, b, d⟩ := sc_fe hm
  rw [bb_a, decide_eq_true_eq] at b
  have self : bt (chn c) c = true := by
    rcases (h.2 c hc).2.2.2.2.2 with ⟨_, z⟩ | ⟨p, _, _, _, z⟩
    · exact (z c).mpr rfl
    · exact (z c).mpr (Or.inl rfl)
  refine sc_lI a ?_ ?_
  · rw [bb_a, b.1]; exact ⟨b.2, self⟩
  · intro j h1 h2 z
    rw [bb_a] at z
    have k1 := g.2.2 m j h1 h2
    have k2 := hi_cl h hc z.2
    have := u j m h2 a z.1 b.2 (by omega)
    omega
theorem ch_n {C M : Nat} {ifc anc chn par hom : Nat → Int32} {q : Nat → Bool} (h : hi_ok C ifc anc chn par) {c : Nat} (hc : c < C)
    (hm : dc_v M hom q c = none) : (par c = -1 ∧ sc_l (fun m => q m && bt (chn c) (hq_t (hom m))) M = none) ∨
      ∃ p, p < c ∧ par c = nI p ∧ sc_l (fun m => q m && bt (chn c) (hq_t (hom m))) M = sc_l (fun m => q m && bt (chn p) (hq_t (hom m))) M := by
  have n := sc_fn hm
  rcases (h.2 c hc).2.2.2.2.2 with ⟨e, z⟩ | ⟨p, hp, e, _, z⟩
  · refine Or.inl ⟨e, sc_lN (fun j hj y => ?_)⟩
    rw [bb_a] at y
    exact n j hj (bb_a.mpr ⟨decide_eq_true ((z _).mp y.2), y.1⟩)
  · refine Or.inr ⟨p, hp, e, sc_lc (fun j hj => ?_)⟩
    have nj := n j hj
    show (q j && bt (chn c) (hq_t (hom j))) = (q j && bt (chn p) (hq_t (hom j)))
    cases hq : q j
    · rfl
    · rw [Bool.true_and, Bool.true_and]
      refine Bool.eq_iff_iff.mpr ⟨fun y => ?_, fun y => (z _).mpr (Or.inr y)⟩
      rcases (z _).mp y with w | w
      · exact absurd (bb_a.mpr ⟨decide_eq_true w, hq⟩) nj
      · exact w
/-- the ancestors from the least on -/
theorem an_s {C M : Nat} {anc hom : Nat → Int32} {q : Nat → Bool} (g : mh_ok C M hom) {c d m : Nat}
    (b0 : ∀ e, e < d → bt (anc c) e = true → dc_v M hom q e = none) (hb : bt (anc c) d = true) (hm : dc_v M hom q d = some m) :
    sc_f (fun m => q m && bt (anc c) (hq_t (hom m))) M = some m := by
  obtain ⟨a, b, e⟩ := sc_fe hm
  rw [bb_a, decide_eq_true_eq] at b
  refine sc_fI a ?_ ?_
  · rw [bb_a, b.1]; exact ⟨b.2, hb⟩
  · intro j hj z
    rw [bb_a] at z
    have k1 := g.2.2 j m hj a
    rcases Nat.lt_or_ge (hq_t (hom j)) d with w | w
    · exact sc_fn (b0 _ w z.2) j (by omega) (bb_a.mpr ⟨decide_eq_true rfl, z.1⟩)
    · exact e j hj (bb_a.mpr ⟨decide_eq_true (by omega), z.1⟩)
theorem an_n {C M : Nat} {anc hom : Nat → Int32} {q : Nat → Bool} (g : mh_ok C M hom) (hC : C ≤ 10) {c : Nat}
    (b0 : ∀ e, e < C → bt (anc c) e = true → dc_v M hom q e = none) :
    sc_f (fun m => q m && bt (anc c) (hq_t (hom m))) M = none := by
  refine sc_fN (fun j hj z => ?_)
  rw [bb_a] at z
  exact sc_fn (b0 _ (mh_h g hC hj).2 z.2) j hj (bb_a.mpr ⟨decide_eq_true rfl, z.1⟩)
/-- found or not: whether there is one among the ancestors -/
theorem fd_s {C M : Nat} {ifc anc chn par hom : Nat → Int32} {q : Nat → Bool} (h : hi_ok C ifc anc chn par) {c m : Nat} (hc : c < C)
    (e : fd_v M anc chn hom q c = some m) : m < M ∧ q m = true ∧ bt (anc c) (hq_t (hom m)) = true := by
  unfold fd_v at e
  cases k : sc_l (fun m => q m && bt (chn c) (hq_t (hom m))) M with
  | some j =>
    rw [k] at e
    have : j = m := by simpa using e
    subst this
    obtain ⟨a, b, _⟩ := sc_le k
    rw [bb_a] at b
    exact ⟨a, b.1, (h.2 c hc).2.2.2.1 _ b.2⟩
  | none =>
    rw [k] at e
    obtain ⟨a, b, _⟩ := sc_fe e
    rw [bb_a] at b
    exact ⟨a, b⟩
theorem fd_i {M : Nat} {anc chn hom : Nat → Int32} {q : Nat → Bool} {c m : Nat} (hm : m < M) (hq : q m = true) (hb : bt (anc c) (hq_t (hom m)) = true) :
    ∃ k, fd_v M anc chn hom q c = some k := by
  unfold fd_v
  cases k : sc_l (fun m => q m && bt (chn c) (hq_t (hom m))) M with
  | some j => exact ⟨j, rfl⟩
  | none =>
    cases e : sc_f (fun m => q m && bt (anc c) (hq_t (hom m))) M with
    | some j => exact ⟨j, rfl⟩
    | none => exact absurd (bb_a.mpr ⟨hq, hb⟩) (sc_fn e m hm)
theorem fd_up {C M : Nat} {ifc anc chn par hom : Nat → Int32} {q : Nat → Bool} (h : hi_ok C ifc anc chn par) {c d m : Nat} (hc : c < C) (hd : d < C)
    (e : fd_v M anc chn hom q c = some m) (hb : bt (anc d) c = true) : ∃ k, fd_v M anc chn hom q d = some k := by
  obtain ⟨a, b, f⟩ := fd_s h hc e
  exact fd_i a b ((h.2 d hd).2.2.1 c _ hb f)
theorem fd_b {C M : Nat} {ifc anc chn par hom : Nat → Int32} {q : Nat → Bool} (h : hi_ok C ifc anc chn par) (g : mh_ok C M hom) {c : Nat} (hc : c < C) :
    ∀ m, fd_v M anc chn hom q c = some m → m < 2 ^ 31 := fun m e => by
  have := (fd_s h hc e).1
  have := g.1
  omega
/-- what isn't of the chain is abstract: so found of the chain, or not filled -/
theorem fd_ch {C M : Nat} {ifc anc chn par hom : Nat → Int32} {q : Nat → Bool} (h : hi_ok C ifc anc chn par) {c m : Nat} (hc : c < C)
    (e : fd_v M anc chn hom q c = some m) (hi : ifc (hq_t (hom m)) = 0) : sc_l (fun m => q m && bt (chn c) (hq_t (hom m))) M = some m := by
  unfold fd_v at e
  cases k : sc_l (fun m => q m && bt (chn c) (hq_t (hom m))) M with
  | some j => rw [k] at e; exact e
  | none =>
    rw [k] at e
    obtain ⟨a, b, _⟩ := sc_fe e
    rw [bb_a] at b
    have n : ¬ bt (chn c) (hq_t (hom m)) = true := fun z => sc_ln k m a (bb_a.mpr ⟨b.1, z⟩)
    exact absurd hi ((h.2 c hc).2.2.2.2.1 _ b.2 n)
end
section
/-! ===== families: the least of what kin join (pure) ===== -/
def fa_cl (kin : Nat → Nat → Prop) (S : Nat → Prop) : Prop := ∀ a b, kin a b → (S a ↔ S b)
def fa_cp (kin : Nat → Nat → Prop) (m x : Nat) : Prop := ∀ S : Nat → Prop, fa_cl kin S → (S m ↔ S x)
theorem fa_cr (kin : Nat → Nat → Prop) (m : Nat) : fa_cp kin m m := fun _ _ => Iff.rfl
theorem fa_ct {kin : Nat → Nat → Prop} {a b c : Nat} (h : fa_cp kin a b) (g : fa_cp kin b c) : fa_cp kin a c := fun S hS => (h S hS).trans (g S hS)
theorem fa_cs {kin : Nat → Nat → Prop} {a b : Nat} (h : fa_cp kin a b) : fa_cp kin b a := fun S hS => (h S hS).symm
theorem fa_ck {kin : Nat → Nat → Prop} {a b : Nat} (h : kin a b) : fa_cp kin a b := fun _ hS => hS a b h
theorem fa_ex (kin : Nat → Nat → Prop) (m : Nat) : ∃ k, fa_cp kin m k ∧ ∀ j, j < k → ¬ fa_cp kin m j := pk_least _ ⟨m, fa_cr kin m⟩
noncomputable def fa_lf (kin : Nat → Nat → Prop) (m : Nat) : Nat := Exists.choose (fa_ex kin m)
theorem fa_lc (kin : Nat → Nat → Prop) (m : Nat) : fa_cp kin m (fa_lf kin m) := (Exists.choose_spec (fa_ex kin m)).1
theorem fa_ll {kin : Nat → Nat → Prop} {m x : Nat} (h : fa_cp kin m x) : fa_lf kin m ≤ x := by
  rcases Nat.lt_or_ge x (fa_lf kin m) with g | g
  · exact absurd h ((Exists.choose_spec (fa_ex kin m)).2 x g)
  · exact g
theorem fa_lm (kin : Nat → Nat → Prop) (m : Nat) : fa_lf kin m ≤ m := fa_ll (fa_cr kin m)
theorem fa_le {kin : Nat → Nat → Prop} {a b : Nat} (h : fa_cp kin a b) : fa_lf kin a = fa_lf kin b :=
  Nat.le_antisymm (fa_ll (fa_ct h (fa_lc kin b))) (fa_ll (fa_ct (fa_cs h) (fa_lc kin a)))
theorem fa_lk {kin : Nat → Nat → Prop} {a b : Nat} (h : kin a b) : fa_lf kin a = fa_lf kin b := fa_le (fa_ck h)
theorem fa_li (kin : Nat → Nat → Prop) (m : Nat) : fa_lf kin (fa_lf kin m) = fa_lf kin m := (fa_le (fa_lc kin m)).symm
/-- what all kin share, a family shares -/
theorem fa_sh {kin : Nat → Nat → Prop} {α : Type} (f : Nat → α) (h : ∀ a b, kin a b → f a = f b) (m : Nat) : f (fa_lf kin m) = f m :=
  ((fa_lc kin m) (fun x => f x = f m) (fun a b k => by show f a = f m ↔ f b = f m; rw [h a b k])).mp rfl
theorem fa_st {kin : Nat → Nat → Prop} {fam : Nat → Nat} (h1 : ∀ a b, kin a b → fam a = fam b) (h2 : ∀ m, fa_cp kin m (fam m)) (h3 : ∀ m, fam m ≤ m) (m : Nat) : fam m = fa_lf kin m := by
  have a : fam (fa_lf kin m) = fam m := fa_sh fam h1 m
  have b := h3 (fa_lf kin m)
  have c := fa_ll (h2 m)
  omega
/-- while not all are settled, one that isn't has a settled kin -/
theorem fa_go {kin : Nat → Nat → Prop} (sy : ∀ a b, kin a b → kin b a) {fam : Nat → Nat} (h2 : ∀ m, fa_cp kin m (fam m)) (h3 : ∀ m, fam m ≤ m) {m : Nat} (u : ¬ fam m = fa_lf kin m) :
    ∃ a b, kin a b ∧ ¬ fam a = fa_lf kin a ∧ fam b = fa_lf kin b := by
  apply Classical.byContradiction
  intro no
  have st : ∀ a b, kin a b → fam b = fa_lf kin b → fam a = fa_lf kin a := fun a b k e =>
    Classical.byContradiction (fun z => no ⟨a, b, k, z, e⟩)
  have cl : fa_cl kin (fun x => fam x = fa_lf kin x) := fun a b k => ⟨fun z => st b a (sy a b k) z, fun z => st a b k z⟩
  have r : fam (fa_lf kin m) = fa_lf kin (fa_lf kin m) := by
    have x := h3 (fa_lf kin m)
    have y := fa_ll (h2 (fa_lf kin m))
    have z := fa_li kin m
    omega
  exact u (((fa_lc kin m) _ cl).mpr r)
/-- a round in which every one takes at most what its kin had before settles one more -/
theorem fa_rd {kin : Nat → Nat → Prop} (sy : ∀ a b, kin a b → kin b a) {M : Nat} (kM : ∀ a b, kin a b → a < M) {fam new : Nat → Nat} (h2 : ∀ m, fa_cp kin m (fam m)) (h3 : ∀ m, fam m ≤ m)
    (n2 : ∀ m, fa_cp kin m (new m)) (n1 : ∀ m, new m ≤ fam m) (nk : ∀ a b, kin a b → new a ≤ fam b) :
    (∀ m, fam m = fa_lf kin m) ∨ pc_n (fun m => decide (fam m = fa_lf kin m)) M < pc_n (fun m => decide (new m = fa_lf kin m)) M := by
  by_cases u : ∃ m, ¬ fam m = fa_lf kin m
  · obtain ⟨m, u⟩ := u
    obtain ⟨a, b, k, na, sb⟩ := fa_go sy h2 h3 u
    refine Or.inr (pc_lt (i := a) (fun i _ z => ?_) (kM a b k) ?_ ?_)
    · have z' := of_decide_eq_true z
      have x := fa_ll (n2 i)
      have y := n1 i
      exact decide_eq_true (by omega)
    · have x := fa_ll (n2 a)
      have y := nk a b k
      have w := fa_lk k
      exact decide_eq_true (by omega)
    · exact fun z => na (of_decide_eq_true z)
  · exact Or.inl (fun m => Classical.byContradiction (fun z => u ⟨m, z⟩))
end
section
/-! ===== the least that isn't (pure) ===== -/
theorem le_ex (p : Nat → Prop) : ∃ k, (¬ p k ∧ ∀ j, j < k → p j) ∨ ∀ j, p j := by
  by_cases h : ∃ k, ¬ p k
  · obtain ⟨k, a, b⟩ := pk_least (fun k => ¬ p k) h
    exact ⟨k, Or.inl ⟨a, fun j hj => Classical.byContradiction (b j hj)⟩⟩
  · exact ⟨0, Or.inr (fun j => Classical.byContradiction (fun z => h ⟨j, z⟩))⟩
noncomputable def le_o (p : Nat → Prop) : Nat := Exists.choose (le_ex p)
theorem le_u {p : Nat → Prop} {k : Nat} (h : ¬ p k) (g : ∀ j, j < k → p j) : le_o p = k := by
  rcases Exists.choose_spec (le_ex p) with ⟨a, b⟩ | a
  · rcases Nat.lt_trichotomy (le_o p) k with c | c | c
    · exact absurd (g _ c) a
    · exact c
    · exact absurd (b _ c) h
  · exact absurd (a k) h
theorem le_x {p : Nat → Prop} {k : Nat} (h : ¬ p k) : ¬ p (le_o p) ∧ (∀ j, j < le_o p → p j) ∧ le_o p ≤ k := by
  rcases Exists.choose_spec (le_ex p) with ⟨a, b⟩ | a
  · refine ⟨a, b, ?_⟩
    rcases Nat.lt_or_ge k (le_o p) with c | c
    · exact absurd (b k c) h
    · exact c
  · exact absurd (a k) h
/-! ===== new names (pure) ===== -/
section
variable (C M R : Nat) (anc hom nam rc rn : Nat → Int32) (N Q : Int32)
def kn_p (a b : Nat) : Prop := a < M ∧ b < M ∧ bt Q a = true ∧ bt Q b = true ∧ nam a = nam b ∧ ∃ d, d < C ∧ bt N d = true ∧ bt (anc d) (hq_t (hom a)) = true ∧ bt (anc d) (hq_t (hom b)) = true
noncomputable def kn_f (m : Nat) : Nat := fa_lf (kn_p C M anc hom nam N Q) m
def sg_p (f d : Nat) : Prop := d < C ∧ bt N d = true ∧ ∃ m, m < M ∧ bt Q m = true ∧ kn_f C M anc hom nam N Q m = f ∧ bt (anc d) (hq_t (hom m)) = true
def sg_m (f g : Nat) : Prop := ∃ d, sg_p C M anc hom nam N Q f d ∧ sg_p C M anc hom nam N Q g d
def ru_p (m : Nat) : Prop := ∃ r, r < R ∧ bt (rc r) (hq_t (hom m)) = true ∧ bt (rn r) (hq_t (nam m)) = true
def kp_p (g : Nat) : Prop := ∃ m, m < M ∧ bt Q m = true ∧ ru_p R hom nam rc rn m ∧ kn_f C M anc hom nam N Q m = g
def na_tk (nn : Nat → Int32) (f n : Nat) : Prop := ∃ g, g < M ∧ nn g = nI n ∧ sg_m C M anc hom nam N Q f g
noncomputable def na_0 (g : Nat) : Int32 := @ite _ (kp_p C M R anc hom nam rc rn N Q g) (Classical.propDecidable _) (nam g) (-1)
noncomputable def na_it : Nat → Nat → Int32
  | 0 => na_0 C M R anc hom nam rc rn N Q
  | f + 1 => @ite _ (bt Q f = true ∧ kn_f C M anc hom nam N Q f = f ∧ ¬ kp_p C M R anc hom nam rc rn N Q f) (Classical.propDecidable _)
      (upd (na_it f) f (nI (le_o (na_tk C M anc hom nam N Q (na_it f) f)))) (na_it f)
def na_ok (f : Nat) (nn : Nat → Int32) : Prop :=
  (∀ g, g < M → nn g = -1 ∨ ∃ n, n < 30 ∧ nn g = nI n ∧ bt Q g = true ∧ kn_f C M anc hom nam N Q g = g) ∧
  (∀ g h, g < M → h < M → g ≠ h → ¬ nn g = -1 → nn g = nn h → ¬ sg_m C M anc hom nam N Q g h) ∧
  (∀ g, f ≤ g → g < M → ¬ kp_p C M R anc hom nam rc rn N Q g → nn g = -1) ∧
  (∀ g, g < M → kp_p C M R anc hom nam rc rn N Q g → nn g = nam g) ∧
  (∀ g, g < f → g < M → bt Q g = true → kn_f C M anc hom nam N Q g = g → ¬ nn g = -1)
end
section
variable {C M R : Nat} {anc hom nam rc rn : Nat → Int32} {N Q : Int32}
theorem kn_sy (a b : Nat) (h : kn_p C M anc hom nam N Q a b) : kn_p C M anc hom nam N Q b a := by
  obtain ⟨h1, h2, h3, h4, h5, d, h6, h7, h8, h9⟩ := h
  exact ⟨h2, h1, h4, h3, h5.symm, d, h6, h7, h9, h8⟩
theorem kn_le (m : Nat) : kn_f C M anc hom nam N Q m ≤ m := fa_lm _ m
theorem kn_id (m : Nat) : kn_f C M anc hom nam N Q (kn_f C M anc hom nam N Q m) = kn_f C M anc hom nam N Q m := fa_li _ m
theorem kn_nm (m : Nat) : nam (kn_f C M anc hom nam N Q m) = nam m := fa_sh nam (fun _ _ h => h.2.2.2.2.1) m
theorem kn_q (m : Nat) : bt Q (kn_f C M anc hom nam N Q m) = bt Q m := fa_sh (bt Q) (fun _ _ h => h.2.2.1.trans h.2.2.2.1.symm) m
theorem kn_k {a b : Nat} (h : kn_p C M anc hom nam N Q a b) : kn_f C M anc hom nam N Q a = kn_f C M anc hom nam N Q b := fa_lk h
theorem sg_sy {f g : Nat} (h : sg_m C M anc hom nam N Q f g) : sg_m C M anc hom nam N Q g f := by
  obtain ⟨d, a, b⟩ := h
  exact ⟨d, b, a⟩
theorem kp_i {g : Nat} (h : kp_p C M R anc hom nam rc rn N Q g) : g < M ∧ bt Q g = true ∧ kn_f C M anc hom nam N Q g = g := by
  obtain ⟨m, h1, h2, h3, rfl⟩ := h
  have := kn_le (C := C) (M := M) (anc := anc) (hom := hom) (nam := nam) (N := N) (Q := Q) m
  exact ⟨by omega, (kn_q m).trans h2, kn_id m⟩
/-- two families that meet and have one old name are one -/
theorem sg_one {f g : Nat} (h : sg_m C M anc hom nam N Q f g) (e : nam f = nam g) : f = g := by
  obtain ⟨d, ⟨h1, h2, a, a1, a2, a3, a4⟩, ⟨_, _, b, b1, b2, b3, b4⟩⟩ := h
  have na : nam a = nam f := by rw [← a3]; exact (kn_nm a).symm
  have nb : nam b = nam g := by rw [← b3]; exact (kn_nm b).symm
  have := kn_k (⟨a1, b1, a2, b2, by rw [na, nb, e], d, h1, h2, a4, b4⟩ : kn_p C M anc hom nam N Q a b)
  rw [a3, b3] at this
  exact this
theorem na_i0 (hn : ∀ m, m < M → ∃ n, n < 10 ∧ nam m = nI n) : na_ok C M R anc hom nam rc rn N Q 0 (na_it C M R anc hom nam rc rn N Q 0) := by
  have pos : ∀ g, kp_p C M R anc hom nam rc rn N Q g → na_it C M R anc hom nam rc rn N Q 0 g = nam g := fun g h => if_pos h
  have neg : ∀ g, ¬ kp_p C M R anc hom nam rc rn N Q g → na_it C M R anc hom nam rc rn N Q 0 g = -1 := fun g h => if_neg h
  refine ⟨fun g hg => ?_, fun g h hg hh ne n1 e => ?_, fun g _ _ k => neg g k, fun g _ k => pos g k, fun g hg => by omega⟩
  · by_cases k : kp_p C M R anc hom nam rc rn N Q g
    · obtain ⟨n, a, b⟩ := hn g hg
      exact Or.inr ⟨n, by omega, (pos g k).trans b, (kp_i k).2⟩
    · exact Or.inl (neg g k)
  · by_cases k : kp_p C M R anc hom nam rc rn N Q g
    · by_cases l : kp_p C M R anc hom nam rc rn N Q h
      · rw [pos g k, pos h l] at e
        exact fun z => ne (sg_one z e)
      · rw [neg h l] at e
        exact absurd e n1
    · exact absurd (neg g k) n1
/-- fewer than 30 names are taken -/
theorem na_30 (hM : M ≤ 30) {f : Nat} (hf : f < M) {nn : Nat → Int32} (h : na_ok C M R anc hom nam rc rn N Q f nn) (k : ¬ kp_p C M R anc hom nam rc rn N Q f) :
    ∃ n, n < 30 ∧ ¬ na_tk C M anc hom nam N Q nn f n := by
  apply Classical.byContradiction
  intro no
  have all : ∀ n, n < 30 → na_tk C M anc hom nam N Q nn f n := fun n hn => Classical.byContradiction (fun z => no ⟨n, hn, z⟩)
  have nf : nn f = -1 := h.2.2.1 f (Nat.le_refl f) hf k
  refine pg_x 30 (fun g => hq_t (nn g)) f (by omega) (fun n hn => ?_)
  obtain ⟨g, hg, e, _⟩ := all n hn
  refine ⟨g, by omega, fun z => ?_, ?_⟩
  · subst z; rw [nf] at e; exact oI_n (by omega) e.symm
  · show hq_t (nn g) = n
    rw [e]; exact hq_e (by omega)
theorem na_tkS {nn : Nat → Int32} {f : Nat} (hM : M ≤ 30) (hf : f < M) (h : na_ok C M R anc hom nam rc rn N Q f nn) (k : ¬ kp_p C M R anc hom nam rc rn N Q f) :
    le_o (na_tk C M anc hom nam N Q nn f) < 30 ∧ ¬ na_tk C M anc hom nam N Q nn f (le_o (na_tk C M anc hom nam N Q nn f)) := by
  obtain ⟨n, hn, t⟩ := na_30 hM hf h k
  obtain ⟨a, _, c⟩ := le_x t
  exact ⟨by omega, a⟩
theorem na_s (hn : ∀ m, m < M → ∃ n, n < 10 ∧ nam m = nI n) (hM : M ≤ 30) {f : Nat} (hf : f < M) (h : na_ok C M R anc hom nam rc rn N Q f (na_it C M R anc hom nam rc rn N Q f)) :
    na_ok C M R anc hom nam rc rn N Q (f + 1) (na_it C M R anc hom nam rc rn N Q (f + 1)) := by
  by_cases c : bt Q f = true ∧ kn_f C M anc hom nam N Q f = f ∧ ¬ kp_p C M R anc hom nam rc rn N Q f
  · have e : na_it C M R anc hom nam rc rn N Q (f + 1) = upd (na_it C M R anc hom nam rc rn N Q f) f (nI (le_o (na_tk C M anc hom nam N Q (na_it C M R anc hom nam rc rn N Q f) f))) := if_pos c
    obtain ⟨l30, ntk⟩ := na_tkS hM hf h c.2.2
    rw [e]
    generalize na_it C M R anc hom nam rc rn N Q f = nn at *
    generalize le_o (na_tk C M anc hom nam N Q nn f) = n at *
    obtain ⟨h1, h2, h3, h4, h5⟩ := h
    have nz : ¬ nI n = -1 := oI_n (by omega)
    refine ⟨fun g hg => ?_, fun g k hg hk ne n1 e => ?_, fun g a b k => ?_, fun g a k => ?_, fun g a b r i => ?_⟩
    · by_cases z : g = f
      · subst z; exact Or.inr ⟨n, l30, pk_us, c.1, c.2.1⟩
      · rw [pk_un z]; exact h1 g hg
    · by_cases z : g = f
      · subst z
        rw [pk_us, pk_un (fun y => ne y.symm)] at e
        exact fun y => ntk ⟨k, hk, e.symm, y⟩
      · by_cases y : k = f
        · subst y
          rw [pk_us, pk_un z] at e
          exact fun x => ntk ⟨g, hg, e, sg_sy x⟩
        · rw [pk_un z] at n1 e
          rw [pk_un y] at e
          exact h2 g k hg hk ne n1 e
    · rw [pk_un (by omega)]; exact h3 g (by omega) b k
    · by_cases z : g = f
      · subst z; exact absurd k c.2.2
      · rw [pk_un z]; exact h4 g a k
    · by_cases z : g = f
      · subst z; rw [pk_us]; exact nz
      · rw [pk_un z]; exact h5 g (by omega) b r i
  · have e : na_it C M R anc hom nam rc rn N Q (f + 1) = na_it C M R anc hom nam rc rn N Q f := if_neg c
    rw [e]
    generalize na_it C M R anc hom nam rc rn N Q f = nn at *
    obtain ⟨h1, h2, h3, h4, h5⟩ := h
    refine ⟨h1, h2, fun g a b k => h3 g (by omega) b k, h4, fun g a b r i => ?_⟩
    rcases Nat.lt_or_ge g f with z | z
    · exact h5 g z b r i
    · have : g = f := by omega
      subst this
      have k : kp_p C M R anc hom nam rc rn N Q g := Classical.byContradiction (fun y => c ⟨r, i, y⟩)
      obtain ⟨n, a', e'⟩ := hn g b
      rw [h4 g b k, e']
      exact oI_n (by omega)
theorem na_all (hM : M ≤ 30) (hn : ∀ m, m < M → ∃ n, n < 10 ∧ nam m = nI n) : ∀ f, f ≤ M → na_ok C M R anc hom nam rc rn N Q f (na_it C M R anc hom nam rc rn N Q f)
  | 0, _ => na_i0 hn
  | f + 1, h => na_s hn hM (by omega) (na_all hM hn f (by omega))
/-- the new name of a method -/
theorem na_fin {nn : Nat → Int32} (h : na_ok C M R anc hom nam rc rn N Q M nn) {m : Nat} (hm : m < M) (hq : bt Q m = true) :
    ∃ n, n < 30 ∧ nn (kn_f C M anc hom nam N Q m) = nI n := by
  have l := kn_le (C := C) (M := M) (anc := anc) (hom := hom) (nam := nam) (N := N) (Q := Q) m
  rcases h.1 (kn_f C M anc hom nam N Q m) (by omega) with z | ⟨n, a, b, _⟩
  · exact absurd z (h.2.2.2.2 _ (by omega) (by omega) ((kn_q m).trans hq) (kn_id m))
  · exact ⟨n, a, b⟩
/-- one of one home and new name at the most -/
theorem na_un {nn : Nat → Int32} (h : na_ok C M R anc hom nam rc rn N Q M nn) (self : ∀ m, m < M → bt Q m = true → hq_t (hom m) < C ∧ bt N (hq_t (hom m)) = true ∧ bt (anc (hq_t (hom m))) (hq_t (hom m)) = true)
    (un : ∀ a b, a < M → b < M → nam a = nam b → hq_t (hom a) = hq_t (hom b) → a = b) {a b : Nat} (ha : a < M) (hb : b < M) (qa : bt Q a = true) (qb : bt Q b = true)
    (e : nn (kn_f C M anc hom nam N Q a) = nn (kn_f C M anc hom nam N Q b)) (eh : hq_t (hom a) = hq_t (hom b)) : a = b := by
  have la := kn_le (C := C) (M := M) (anc := anc) (hom := hom) (nam := nam) (N := N) (Q := Q) a
  have lb := kn_le (C := C) (M := M) (anc := anc) (hom := hom) (nam := nam) (N := N) (Q := Q) b
  obtain ⟨s1, s2, s3⟩ := self a ha qa
  have mt : sg_m C M anc hom nam N Q (kn_f C M anc hom nam N Q a) (kn_f C M anc hom nam N Q b) :=
    ⟨hq_t (hom a), ⟨s1, s2, a, ha, qa, rfl, s3⟩, ⟨s1, s2, b, hb, qb, rfl, by rw [← eh]; exact s3⟩⟩
  obtain ⟨n, n1, n2⟩ := na_fin h ha qa
  by_cases c : kn_f C M anc hom nam N Q a = kn_f C M anc hom nam N Q b
  · refine un a b ha hb ?_ eh
    have x := kn_nm (C := C) (M := M) (anc := anc) (hom := hom) (nam := nam) (N := N) (Q := Q) a
    have y := kn_nm (C := C) (M := M) (anc := anc) (hom := hom) (nam := nam) (N := N) (Q := Q) b
    rw [← x, ← y, c]
  · exact absurd mt (h.2.1 _ _ (by omega) (by omega) c (by rw [n2]; exact oI_n (by omega)) e)
end
end
section
/-! ===== marking (pure): the least closed sets. S 0: NAMED classes, S 1: MADE, S 2: NAMED methods, S 3: LIVE ===== -/
def mk_s (a b c d : Int32) (k i : Nat) : Prop :=
  match k with
  | 0 => bt a i = true
  | 1 => bt b i = true
  | 2 => bt c i = true
  | 3 => bt d i = true
  | _ => False
def cl_ok (C M R : Nat) (anc hom nam rk rc rn : Nat → Int32) (fil : Nat → Prop) (E : Nat → (Nat → Nat → Prop) → Prop) (S : Nat → Nat → Prop) : Prop :=
  (∀ r, r < R → rk r = 0 → (∀ c, c < C → bt (rc r) c = true → S 0 c) ∧
    ∀ m, m < M → bt (rc r) (hq_t (hom m)) = true → bt (rn r) (hq_t (nam m)) = true → S 2 m ∧ (fil m → S 3 m)) ∧
  (∀ m, m < M → S 2 m → S 0 (hq_t (hom m))) ∧
  (∀ c, c < C → S 0 c → ∀ i, bt (anc c) i = true → S 0 i) ∧
  (∀ m, m < M → S 3 m → E m S)
/-- what an instruction asks of closed sets: o c n as told, v whether it is INLINED; F c n: what is found -/
def ef_p (C : Nat) (anc : Nat → Int32) (fil : Nat → Prop) (F : Nat → Int32 → Option Nat) (o c n : Int32) (v : Prop) (S : Nat → Nat → Prop) : Prop :=
  (o = 1 → S 0 (hq_t c) ∧ S 1 (hq_t c)) ∧
  (o = 4 → S 0 (hq_t c)) ∧
  (o = 3 → ¬ v → S 0 (hq_t c) ∧ ∀ f, F (hq_t c) n = some f → S 2 f ∧ (fil f → S 3 f)) ∧
  (o = 2 → S 0 (hq_t c) ∧ (¬ v → (∀ f, F (hq_t c) n = some f → S 2 f) ∧
    ∀ d, d < C → S 1 d → bt (anc d) (hq_t c) = true → ∀ g, F d n = some g → S 2 g ∧ (fil g → S 3 g)))
def mk_le (a b c d : Int32) (S : Nat → Nat → Prop) : Prop := ∀ k i, mk_s a b c d k i → S k i
theorem mk_lI {a b c d : Int32} {S : Nat → Nat → Prop} (h0 : ∀ i, bt a i = true → S 0 i) (h1 : ∀ i, bt b i = true → S 1 i) (h2 : ∀ i, bt c i = true → S 2 i)
    (h3 : ∀ i, bt d i = true → S 3 i) : mk_le a b c d S := by
  intro k i z
  match k, z with
  | 0, z => exact h0 i z
  | 1, z => exact h1 i z
  | 2, z => exact h2 i z
  | 3, z => exact h3 i z
  | k + 4, z => exact absurd z (fun y => y)
/-- the marks are a closed set, and in every closed set: two such are the same -/
theorem mk_un {C M R : Nat} {anc hom nam rk rc rn : Nat → Int32} {fil : Nat → Prop} {E E' : Nat → (Nat → Nat → Prop) → Prop} (he : ∀ m S, m < M → (E m S ↔ E' m S)) {a b c d a' b' c' d' : Int32}
    (h : cl_ok C M R anc hom nam rk rc rn fil E (mk_s a b c d)) (g : ∀ S, cl_ok C M R anc hom nam rk rc rn fil E S → mk_le a b c d S)
    (h' : cl_ok C M R anc hom nam rk rc rn fil E' (mk_s a' b' c' d')) (g' : ∀ S, cl_ok C M R anc hom nam rk rc rn fil E' S → mk_le a' b' c' d' S) :
    a' = a ∧ b' = b ∧ c' = c ∧ d' = d := by
  have x : mk_le a b c d (mk_s a' b' c' d') := g _ ⟨h'.1, h'.2.1, h'.2.2.1, fun m hm z => (he m _ hm).mpr (h'.2.2.2 m hm z)⟩
  have y : mk_le a' b' c' d' (mk_s a b c d) := g' _ ⟨h.1, h.2.1, h.2.2.1, fun m hm z => (he m _ hm).mp (h.2.2.2 m hm z)⟩
  exact ⟨ss_as (fun i => y 0 i) (fun i => x 0 i), ss_as (fun i => y 1 i) (fun i => x 1 i), ss_as (fun i => y 2 i) (fun i => x 2 i), ss_as (fun i => y 3 i) (fun i => x 3 i)⟩
def pc_4 (a b c d : Int32) : Nat := pc_b a + pc_b b + pc_b c + pc_b d
theorem pc_4m (a b c d : Int32) : pc_4 a b c d ≤ 128 := by
  have := pc_b32 a; have := pc_b32 b; have := pc_b32 c; have := pc_b32 d
  unfold pc_4; omega
theorem pc_4l {a b c d a' b' c' d' : Int32} (ha : ss_le a a') (hb : ss_le b b') (hc : ss_le c c') (hd : ss_le d d') (n : ¬ (a = a' ∧ b = b' ∧ c = c' ∧ d = d')) : pc_4 a b c d < pc_4 a' b' c' d' := by
  have x1 := pc_bm ha; have x2 := pc_bm hb; have x3 := pc_bm hc; have x4 := pc_bm hd
  unfold pc_4
  by_cases e1 : a = a'
  · by_cases e2 : b = b'
    · by_cases e3 : c = c'
      · by_cases e4 : d = d'
        · exact absurd ⟨e1, e2, e3, e4⟩ n
        · have := pc_bl hd e4; omega
      · have := pc_bl hc e3; omega
    · have := pc_bl hb e2; omega
  · have := pc_bl ha e1; omega
theorem mk_a0 {a b c d x : Int32} {S : Nat → Nat → Prop} (h : mk_le a b c d S) (g : ∀ i, bt x i = true → S 0 i) : mk_le (a ||| x) b c d S :=
  mk_lI (fun i z => by rw [b_or, Bool.or_eq_true] at z; exact z.elim (h 0 i) (g i)) (h 1) (h 2) (h 3)
theorem mk_a1 {a b c d x : Int32} {S : Nat → Nat → Prop} (h : mk_le a b c d S) (g : ∀ i, bt x i = true → S 1 i) : mk_le a (b ||| x) c d S :=
  mk_lI (h 0) (fun i z => by rw [b_or, Bool.or_eq_true] at z; exact z.elim (h 1 i) (g i)) (h 2) (h 3)
theorem mk_a2 {a b c d x : Int32} {S : Nat → Nat → Prop} (h : mk_le a b c d S) (g : ∀ i, bt x i = true → S 2 i) : mk_le a b (c ||| x) d S :=
  mk_lI (h 0) (h 1) (fun i z => by rw [b_or, Bool.or_eq_true] at z; exact z.elim (h 2 i) (g i)) (h 3)
theorem mk_a3 {a b c d x : Int32} {S : Nat → Nat → Prop} (h : mk_le a b c d S) (g : ∀ i, bt x i = true → S 3 i) : mk_le a b c (d ||| x) S :=
  mk_lI (h 0) (h 1) (h 2) (fun i z => by rw [b_or, Bool.or_eq_true] at z; exact z.elim (h 3 i) (g i))
theorem mk_b1 {P : Nat → Prop} {k : Nat} (hk : k < 32) (h : P k) : ∀ i, bt ((1 : Int32) <<< (nI k &&& 31)) i = true → P i := fun i z => by
  rw [bq_1 hk, decide_eq_true_eq] at z
  subst z; exact h
/-- the marks grow -/
def mk_gr (a b c d a' b' c' d' : Int32) : Prop := ss_le a a' ∧ ss_le b b' ∧ ss_le c c' ∧ ss_le d d'
theorem mk_gr0 (a b c d : Int32) : mk_gr a b c d a b c d := ⟨ss_rf a, ss_rf b, ss_rf c, ss_rf d⟩
theorem mk_grt {a b c d a' b' c' d' a'' b'' c'' d'' : Int32} (h : mk_gr a b c d a' b' c' d') (g : mk_gr a' b' c' d' a'' b'' c'' d'') : mk_gr a b c d a'' b'' c'' d'' :=
  ⟨ss_tr h.1 g.1, ss_tr h.2.1 g.2.1, ss_tr h.2.2.1 g.2.2.1, ss_tr h.2.2.2 g.2.2.2⟩
/-- grown and not beyond where it began: nothing has changed on the way -/
theorem mk_gre {a b c d a' b' c' d' : Int32} (h : mk_gr a b c d a' b' c' d') (g : mk_gr a' b' c' d' a b c d) : a' = a ∧ b' = b ∧ c' = c ∧ d' = d :=
  ⟨ss_as g.1 h.1, ss_as g.2.1 h.2.1, ss_as g.2.2.1 h.2.2.1, ss_as g.2.2.2 h.2.2.2⟩
/-- what holds of the class's marks all along -/
def mi_ok (C M R : Nat) (anc hom nam rk rc rn : Nat → Int32) (fil : Nat → Prop) (E : Nat → (Nat → Nat → Prop) → Prop) (a b c d : Int32) : Prop :=
  (∀ S, cl_ok C M R anc hom nam rk rc rn fil E S → mk_le a b c d S) ∧ ss_le d c ∧ (∀ i, bt a i = true → i < C) ∧ (∀ i, bt b i = true → i < C) ∧ (∀ i, bt c i = true → i < M) ∧
  (∀ i j, bt a i = true → bt (anc i) j = true → bt a j = true) ∧ (∀ m, bt c m = true → bt a (hq_t (hom m)) = true)
section
variable {C M R : Nat} {anc hom nam rk rc rn ifc chn par : Nat → Int32} {fil : Nat → Prop} {E : Nat → (Nat → Nat → Prop) → Prop} {a b c d : Int32}
theorem mi_0 : mi_ok C M R anc hom nam rk rc rn fil E 0 0 0 0 := by
  have z : ∀ i, ¬ bt 0 i = true := fun i h => by rw [b_0] at h; exact absurd h (by decide)
  exact ⟨fun S _ => mk_lI (fun i h => absurd h (z i)) (fun i h => absurd h (z i)) (fun i h => absurd h (z i)) (fun i h => absurd h (z i)), ss_rf 0, fun i h => absurd h (z i), fun i h => absurd h (z i),
    fun i h => absurd h (z i), fun i _ h => absurd h (z i), fun i h => absurd h (z i)⟩
theorem mi_N (hh : hi_ok C ifc anc chn par) (h : mi_ok C M R anc hom nam rk rc rn fil E a b c d) {k : Nat} (hk : k < C)
    (J : ∀ S, cl_ok C M R anc hom nam rk rc rn fil E S → mk_le a b c d S → S 0 k) :
    mi_ok C M R anc hom nam rk rc rn fil E (a ||| anc k) b c d ∧ mk_gr a b c d (a ||| anc k) b c d ∧ bt (a ||| anc k) k = true := by
  obtain ⟨h1, h2, h3, h4, h5, h6, h7⟩ := h
  obtain ⟨q1, q2, q3, _⟩ := hh.2 k hk
  refine ⟨⟨fun S hS => mk_a0 (h1 S hS) (fun i z => hS.2.2.1 k hk (J S hS (h1 S hS)) i z), h2, fun i z => ?_, h4, h5, fun i j z w => ?_, fun m z => ss_ol a _ _ (h7 m z)⟩,
    ⟨ss_ol a _, ss_rf b, ss_rf c, ss_rf d⟩, ss_or a _ k q1⟩
  · rw [b_or, Bool.or_eq_true] at z
    rcases z with z | z
    · exact h3 i z
    · have := q2 i z; omega
  · rw [b_or, Bool.or_eq_true] at z
    rcases z with z | z
    · exact ss_ol a _ _ (h6 i j z w)
    · exact ss_or a _ _ (q3 i j z w)
theorem mi_D (hC : C ≤ 10) (h : mi_ok C M R anc hom nam rk rc rn fil E a b c d) {k : Nat} (hk : k < C)
    (J : ∀ S, cl_ok C M R anc hom nam rk rc rn fil E S → mk_le a b c d S → S 1 k) :
    mi_ok C M R anc hom nam rk rc rn fil E a (b ||| ((1 : Int32) <<< (nI k &&& 31))) c d ∧ mk_gr a b c d a (b ||| ((1 : Int32) <<< (nI k &&& 31))) c d ∧ bt (b ||| ((1 : Int32) <<< (nI k &&& 31))) k = true := by
  obtain ⟨h1, h2, h3, h4, h5, h6, h7⟩ := h
  refine ⟨⟨fun S hS => mk_a1 (h1 S hS) (mk_b1 (by omega) (J S hS (h1 S hS))), h2, h3, fun i z => ?_, h5, h6, h7⟩, ⟨ss_rf a, ss_ol b _, ss_rf c, ss_rf d⟩, (bq_o1 b (by omega) k).mpr (Or.inr rfl)⟩
  rcases (bq_o1 b (by omega) i).mp z with z | z
  · exact h4 i z
  · omega
theorem mi_Q (hh : hi_ok C ifc anc chn par) (hg : mh_ok C M hom) (h : mi_ok C M R anc hom nam rk rc rn fil E a b c d) {m : Nat} (hm : m < M)
    (J : ∀ S, cl_ok C M R anc hom nam rk rc rn fil E S → mk_le a b c d S → S 2 m) :
    mi_ok C M R anc hom nam rk rc rn fil E (a ||| anc (hq_t (hom m))) b (c ||| ((1 : Int32) <<< (nI m &&& 31))) d ∧
      mk_gr a b c d (a ||| anc (hq_t (hom m))) b (c ||| ((1 : Int32) <<< (nI m &&& 31))) d ∧ bt (c ||| ((1 : Int32) <<< (nI m &&& 31))) m = true := by
  have hM := hg.1
  have hc := (mh_h hg hh.1 hm).2
  obtain ⟨i1, i2, i3⟩ := mi_N hh h hc (fun S hS g => hS.2.1 m hm (J S hS g))
  obtain ⟨h1, h2, h3, h4, h5, h6, h7⟩ := i1
  refine ⟨⟨fun S hS => mk_a2 (h1 S hS) (mk_b1 (by omega) (J S hS (h.1 S hS))), fun i z => ss_ol c _ i (h2 i z), h3, h4, fun i z => ?_, h6, fun i z => ?_⟩, ⟨i2.1, ss_rf b, ss_ol c _, ss_rf d⟩, (bq_o1 c (by omega) m).mpr (Or.inr rfl)⟩
  · rcases (bq_o1 c (by omega) i).mp z with z | z
    · exact h5 i z
    · omega
  · rcases (bq_o1 c (by omega) i).mp z with z | z
    · exact h7 i z
    · subst z; exact i3
theorem mi_L (hM : M ≤ 30) (h : mi_ok C M R anc hom nam rk rc rn fil E a b c d) {m : Nat} (hm : m < M) (hc : bt c m = true)
    (J : ∀ S, cl_ok C M R anc hom nam rk rc rn fil E S → mk_le a b c d S → S 3 m) :
    mi_ok C M R anc hom nam rk rc rn fil E a b c (d ||| ((1 : Int32) <<< (nI m &&& 31))) ∧ mk_gr a b c d a b c (d ||| ((1 : Int32) <<< (nI m &&& 31))) ∧ bt (d ||| ((1 : Int32) <<< (nI m &&& 31))) m = true := by
  obtain ⟨h1, h2, h3, h4, h5, h6, h7⟩ := h
  refine ⟨⟨fun S hS => mk_a3 (h1 S hS) (mk_b1 (by omega) (J S hS (h1 S hS))), fun i z => ?_, h3, h4, h5, h6, h7⟩, ⟨ss_rf a, ss_rf b, ss_rf c, ss_ol d _⟩, (bq_o1 d (by omega) m).mpr (Or.inr rfl)⟩
  rcases (bq_o1 d (by omega) i).mp z with z | z
  · exact h2 i z
  · subst z; exact hc
end
end
section
/-! ===== new numbers of classes (pure) ===== -/
noncomputable def lo_n (s : Int32) : Nat := le_o (fun n => bt s n = true)
noncomputable def nu_u (kept named : Int32) : Nat → Int32
  | 0 => kept
  | c + 1 => if bt named c = true ∧ ¬ bt kept c = true then nu_u kept named c ||| ((1 : Int32) <<< (nI (lo_n (nu_u kept named c)) &&& 31)) else nu_u kept named c
noncomputable def nu_v (kept named : Int32) (c : Nat) : Int32 :=
  if bt kept c = true then nI c else if bt named c = true then nI (lo_n (nu_u kept named c)) else -1
def nu_ok (kept named : Int32) (c : Nat) : Prop :=
  ∀ n, bt (nu_u kept named c) n = true → n < 10 ∧ (bt kept n = true ∨ ∃ g, g < c ∧ ¬ bt kept g = true ∧ lo_n (nu_u kept named g) = n)
theorem nu_10 {kept named : Int32} {c : Nat} (hc : c < 10) (k : ¬ bt kept c = true) (h : nu_ok kept named c) : lo_n (nu_u kept named c) < 10 ∧ ¬ bt (nu_u kept named c) (lo_n (nu_u kept named c)) = true ∧
    ∀ j, j < lo_n (nu_u kept named c) → bt (nu_u kept named c) j = true := by
  have ex : ∃ n, n < 10 ∧ ¬ bt (nu_u kept named c) n = true := by
    apply Classical.byContradiction
    intro no
    refine pg_x 10 (fun g => if bt kept g = true then g else lo_n (nu_u kept named g)) c hc (fun n hn => ?_)
    have b : bt (nu_u kept named c) n = true := Classical.byContradiction (fun z => no ⟨n, hn, z⟩)
    rcases (h n b).2 with z | ⟨g, g1, g2, g3⟩
    · refine ⟨n, hn, fun y => ?_, ?_⟩
      · subst y; exact k z
      · show (if bt kept n = true then n else lo_n (nu_u kept named n)) = n
        rw [if_pos z]
    · refine ⟨g, by omega, by omega, ?_⟩
      show (if bt kept g = true then g else lo_n (nu_u kept named g)) = n
      rw [if_neg g2]; exact g3
  obtain ⟨n, hn, b⟩ := ex
  obtain ⟨x, y, z⟩ := le_x (p := fun n => bt (nu_u kept named c) n = true) b
  exact ⟨Nat.lt_of_le_of_lt z hn, x, y⟩
theorem nu_0 {kept named : Int32} (hk : ∀ i, bt kept i = true → i < 10) : nu_ok kept named 0 := fun n h => ⟨hk n h, Or.inl h⟩
theorem nu_s {kept named : Int32} {c : Nat} (hc : c < 10) (h : nu_ok kept named c) : nu_ok kept named (c + 1) := by
  by_cases e : bt named c = true ∧ ¬ bt kept c = true
  · have l := nu_10 hc e.2 h
    have u : nu_u kept named (c + 1) = nu_u kept named c ||| ((1 : Int32) <<< (nI (lo_n (nu_u kept named c)) &&& 31)) := if_pos e
    intro n hn
    rw [u, bq_o1 _ (by omega)] at hn
    rcases hn with z | z
    · obtain ⟨a, b⟩ := h n z
      refine ⟨a, ?_⟩
      rcases b with b | ⟨g, g1, g2⟩
      · exact Or.inl b
      · exact Or.inr ⟨g, by omega, g2⟩
    · refine ⟨by omega, Or.inr ⟨c, by omega, e.2, z.symm⟩⟩
  · have u : nu_u kept named (c + 1) = nu_u kept named c := if_neg e
    intro n hn
    rw [u] at hn
    obtain ⟨a, b⟩ := h n hn
    refine ⟨a, ?_⟩
    rcases b with b | ⟨g, g1, g2⟩
    · exact Or.inl b
    · exact Or.inr ⟨g, by omega, g2⟩
theorem nu_all {kept named : Int32} (hk : ∀ i, bt kept i = true → i < 10) : ∀ c, c ≤ 10 → nu_ok kept named c
  | 0, _ => nu_0 hk
  | c + 1, h => nu_s (by omega) (nu_all hk c (by omega))
theorem nu_mask : ∀ C, C < 11 → ∀ i, i < 32 → bt (((1 : Int32) <<< (nI C &&& 31)) - 1) i = decide (i < C) := by decide +kernel
theorem nu_1023 : ∀ i, i < 32 → bt 1023 i = decide (i < 10) := by decide +kernel
/-! ===== positions of what was inlined (pure) ===== -/
def ps_n (gr : Nat → Nat) : Nat → Nat
  | 0 => 0
  | x + 1 => ps_n gr x + gr x
theorem ps_at {gr : Nat → Nat} : ∀ {n k : Nat}, k < ps_n gr n → ∃ x i, x < n ∧ i < gr x ∧ k = ps_n gr x + i
  | 0, k, h => by exact absurd h (Nat.not_lt_zero k)
  | n + 1, k, h => by
    rcases Nat.lt_or_ge k (ps_n gr n) with c | c
    · obtain ⟨x, i, a, b, e⟩ := ps_at c
      exact ⟨x, i, by omega, b, e⟩
    · refine ⟨n, k - ps_n gr n, by omega, ?_, by omega⟩
      have : k < ps_n gr n + gr n := h
      omega
theorem ps_mo {gr : Nat → Nat} {x : Nat} : ∀ {y : Nat}, x ≤ y → ps_n gr x ≤ ps_n gr y
  | 0, h => by have : x = 0 := by omega
               subst this; exact Nat.le_refl _
  | y + 1, h => by
    rcases Nat.lt_or_ge x (y + 1) with c | c
    · have := ps_mo (gr := gr) (x := x) (y := y) (by omega)
      show ps_n gr x ≤ ps_n gr y + gr y
      omega
    · have : x = y + 1 := by omega
      subst this; exact Nat.le_refl _
theorem ps_4 {gr : Nat → Nat} (h : ∀ x, gr x ≤ 4) : ∀ x, ps_n gr x ≤ 4 * x
  | 0 => Nat.le_refl 0
  | x + 1 => by
    have := ps_4 h x
    have := h x
    show ps_n gr x + gr x ≤ 4 * (x + 1)
    omega
theorem ps_c {gr gr' : Nat → Nat} : ∀ {x : Nat}, (∀ y, y < x → gr y = gr' y) → ps_n gr x = ps_n gr' x
  | 0, _ => rfl
  | x + 1, h => by
    show ps_n gr x + gr x = ps_n gr' x + gr' x
    rw [ps_c (fun y hy => h y (by omega)), h x (by omega)]
end
section
/-! ===== the told program, as both sides hold it ===== -/
/-- what c finds in the told program -/
def fo_v (M : Nat) (anc chn hom nam : Nat → Int32) (c : Nat) (n : Int32) : Option Nat := fd_v M anc chn hom (fun m => decide (nam m = n)) c
/-- own interfaces: none, one or two -/
def ow_p (own many : Int32) : Prop :=
  (many = 0 ∧ own = 0) ∨ (∃ i, i < 10 ∧ many = 1 ∧ own = (1 : Int32) <<< (nI i &&& 31)) ∨
  (∃ i j, i < 10 ∧ j < 10 ∧ i ≠ j ∧ many = 2 ∧ own = ((1 : Int32) <<< (nI i &&& 31)) ||| ((1 : Int32) <<< (nI j &&& 31)))
def me_p (ifc hom xform xname xlen yabs yname ylen : Nat → Int32) (m : Nat) : Prop :=
  (∃ n, n < 10 ∧ xname m = nI n ∧ yname m = nI n) ∧ (∃ l, l ≤ 6 ∧ xlen m = nI l ∧ ylen m = nI l) ∧
  ((yabs m = 0 ∧ xform m = 2) ∨ (¬ yabs m = 0 ∧ xform m = 1)) ∧ (¬ ifc (hq_t (hom m)) = 0 → ¬ yabs m = 0)
def ce_p (m k : Nat) (xop xcl xnu xsm xsl xca yop yfi yse : Int32) : Prop :=
  ∃ o, o < 6 ∧ xop = nI o ∧ yop = nI o ∧
    ((1 ≤ o ∧ o ≤ 4) → ∃ c, c < 10 ∧ xcl = nI c ∧ yfi = nI c) ∧ (¬ (1 ≤ o ∧ o ≤ 4) → xcl = -1) ∧
    ((o = 2 ∨ o = 3) → ∃ n, n < 10 ∧ xnu = nI n ∧ yse = nI n) ∧ (o = 0 → xnu = yse) ∧ (¬ (o = 0 ∨ o = 2 ∨ o = 3) → xnu = 0) ∧
    xsm = nI m ∧ xsl = nI k ∧ xca = -1
def tp_p (C M R : Nat) (ifc anc own chn par many hom rk rc rn xform xname xlen yabs yname ylen xop xcl xnu xsm xsl xca yop yfi yse : Nat → Int32) : Prop :=
  hi_ok C ifc anc chn par ∧ (∀ c, c < C → ow_p (own c) (many c)) ∧ mh_ok C M hom ∧
  (∀ m, m < M → me_p ifc hom xform xname xlen yabs yname ylen m) ∧
  (∀ a b, a < M → b < M → yname a = yname b → hq_t (hom a) = hq_t (hom b) → a = b) ∧
  (∀ m k, m < M → k < hq_t (ylen m) → ce_p m k (xop (24 * m + k)) (xcl (24 * m + k)) (xnu (24 * m + k)) (xsm (24 * m + k)) (xsl (24 * m + k)) (xca (24 * m + k)) (yop (6 * m + k)) (yfi (6 * m + k)) (yse (6 * m + k))) ∧
  R ≤ 4 ∧ (∀ r, r < R → rk r = 0 ∨ rk r = 1)
/-- the trace -/
def tr_p (t : Nat) (tm tl vm vl : Nat → Int32) : Prop := t ≤ 8 ∧ ∀ k, k < t → tm k = vm (t - 1 - k) ∧ tl k = vl (t - 1 - k)
/-! ===== what is wrong with an instruction (pure) ===== -/
def fl_v (C : Nat) (ifc yabs : Nat → Int32) (F : Nat → Int32 → Option Nat) (o c n : Int32) : Int32 :=
  if o = 0 ∨ o = 5 then 0 else if C ≤ hq_t c then 1 else if o = 1 then (if ifc (hq_t c) = 0 then 0 else 2) else if o = 4 then 0 else
    match F (hq_t c) n with
    | none => 3
    | some m => if o = 3 ∧ ¬ yabs m = 0 then 3 else 0
/-- a told line is wrong -/
def fb_p (C M : Nat) (ifc anc chn hom yabs yname ylen yop yfi yse : Nat → Int32) (k : Nat) : Bool :=
  decide (k % 6 < hq_t (ylen (k / 6))) && decide (¬ fl_v C ifc yabs (fo_v M anc chn hom yname) (yop k) (yfi k) (yse k) = 0)
/-- the first wrong one -/
def ff_v (C M : Nat) (ifc anc chn hom yabs yname ylen yop yfi yse : Nat → Int32) : Option Nat := sc_f (fb_p C M ifc anc chn hom yabs yname ylen yop yfi yse) (6 * M)
/-- nothing is wrong: what each line then has -/
theorem ff_n {C M : Nat} {ifc anc chn hom yabs yname ylen yop yfi yse : Nat → Int32} (h : ff_v C M ifc anc chn hom yabs yname ylen yop yfi yse = none) {m k : Nat} (hm : m < M) (h6 : k < 6) (hk : k < hq_t (ylen m)) :
    fl_v C ifc yabs (fo_v M anc chn hom yname) (yop (6 * m + k)) (yfi (6 * m + k)) (yse (6 * m + k)) = 0 := by
  have z := sc_fn h (6 * m + k) (by omega)
  have e1 : (6 * m + k) / 6 = m := by omega
  have e2 : (6 * m + k) % 6 = k := by omega
  unfold fb_p at z
  rw [e1, e2, bb_a, decide_eq_true_eq, decide_eq_true_eq] at z
  exact Classical.byContradiction (fun y => z ⟨hk, y⟩)
theorem fl_c {C : Nat} {ifc yabs : Nat → Int32} {F : Nat → Int32 → Option Nat} {o c n : Int32} (h : fl_v C ifc yabs F o c n = 0) (ho : ¬ (o = 0 ∨ o = 5)) : hq_t c < C := by
  unfold fl_v at h
  rw [if_neg ho] at h
  by_cases e : C ≤ hq_t c
  · rw [if_pos e] at h; exact absurd h (by decide)
  · omega
theorem fl_f {C : Nat} {ifc yabs : Nat → Int32} {F : Nat → Int32 → Option Nat} {o c n : Int32} (h : fl_v C ifc yabs F o c n = 0) (ho : o = 2 ∨ o = 3) : ∃ m, F (hq_t c) n = some m ∧ (o = 3 → yabs m = 0) := by
  have h0 : ¬ (o = 0 ∨ o = 5) := by rcases ho with e | e <;> subst e <;> decide
  have h1 : ¬ o = 1 := by rcases ho with e | e <;> subst e <;> decide
  have h4 : ¬ o = 4 := by rcases ho with e | e <;> subst e <;> decide
  have hc := fl_c h h0
  unfold fl_v at h
  rw [if_neg h0, if_neg (by omega), if_neg h1, if_neg h4] at h
  cases e : F (hq_t c) n with
  | none =>
    rw [e] at h
    have h' : (3 : Int32) = 0 := h
    exact absurd h' (by decide)
  | some m =>
    rw [e] at h
    refine ⟨m, rfl, fun o3 => Classical.byContradiction (fun z => ?_)⟩
    have : (if o = 3 ∧ ¬ yabs m = 0 then (3 : Int32) else 0) = 0 := h
    rw [if_pos ⟨o3, z⟩] at this
    exact absurd this (by decide)
/-! ===== what is inlined (pure) ===== -/
/-- t is the one target of the call at line k of m, and short -/
def it_p (C M : Nat) (anc chn hom yabs yname ylen yop yfi yse : Nat → Int32) (D L : Int32) (m k t : Nat) : Prop :=
  bt L m = true ∧ k < hq_t (ylen m) ∧ t < M ∧ t ≠ m ∧ yabs t = 0 ∧ hq_t (ylen t) ≤ 3 ∧ (∀ i, i < hq_t (ylen t) → yop (6 * t + i) = 0 ∨ yop (6 * t + i) = 5) ∧
  ((yop (6 * m + k) = 3 ∧ fo_v M anc chn hom yname (hq_t (yfi (6 * m + k))) (yse (6 * m + k)) = some t) ∨
   (yop (6 * m + k) = 2 ∧ (∃ d, d < C ∧ bt D d = true ∧ bt (anc d) (hq_t (yfi (6 * m + k))) = true) ∧
    ∀ d, d < C → bt D d = true → bt (anc d) (hq_t (yfi (6 * m + k))) = true → fo_v M anc chn hom yname d (yse (6 * m + k)) = some t))
theorem it_u {C M : Nat} {anc chn hom yabs yname ylen yop yfi yse : Nat → Int32} {D L : Int32} {m k t s : Nat} (h : it_p C M anc chn hom yabs yname ylen yop yfi yse D L m k t) (g : it_p C M anc chn hom yabs yname ylen yop yfi yse D L m k s) : t = s := by
  rcases h.2.2.2.2.2.2.2 with ⟨o, e⟩ | ⟨o, ⟨d, d1, d2, d3⟩, e⟩
  · rcases g.2.2.2.2.2.2.2 with ⟨o', e'⟩ | ⟨o', _⟩
    · rw [e] at e'; simpa using e'
    · rw [o] at o'; exact absurd o' (by decide)
  · rcases g.2.2.2.2.2.2.2 with ⟨o', e'⟩ | ⟨o', _, e'⟩
    · rw [o] at o'; exact absurd o' (by decide)
    · have x := e d d1 d2 d3
      rw [e' d d1 d2 d3] at x
      simpa using x.symm
/-- the one target, short or not -/
def tg_p (C : Nat) (anc : Nat → Int32) (D : Int32) (F : Nat → Int32 → Option Nat) (o c n : Int32) (t : Nat) : Prop :=
  (o = 3 ∧ F (hq_t c) n = some t) ∨
   (o = 2 ∧ (∃ d, d < C ∧ bt D d = true ∧ bt (anc d) (hq_t c) = true) ∧ ∀ d, d < C → bt D d = true → bt (anc d) (hq_t c) = true → F d n = some t)
def sh_p (ylen yop : Nat → Int32) (t : Nat) : Prop := hq_t (ylen t) ≤ 3 ∧ ∀ i, i < hq_t (ylen t) → yop (6 * t + i) = 0 ∨ yop (6 * t + i) = 5
theorem it_i {C M : Nat} {anc chn hom yabs yname ylen yop yfi yse : Nat → Int32} {D L : Int32} {m k t : Nat} :
    it_p C M anc chn hom yabs yname ylen yop yfi yse D L m k t ↔ bt L m = true ∧ k < hq_t (ylen m) ∧ t < M ∧ t ≠ m ∧ yabs t = 0 ∧ sh_p ylen yop t ∧
      tg_p C anc D (fo_v M anc chn hom yname) (yop (6 * m + k)) (yfi (6 * m + k)) (yse (6 * m + k)) t := by
  constructor
  · rintro ⟨h1, h2, h3, h4, h5, h6, h7, h8⟩; exact ⟨h1, h2, h3, h4, h5, ⟨h6, h7⟩, h8⟩
  · rintro ⟨h1, h2, h3, h4, h5, ⟨h6, h7⟩, h8⟩; exact ⟨h1, h2, h3, h4, h5, h6, h7, h8⟩
def il_p (C M : Nat) (anc chn hom yabs yname ylen yop yfi yse : Nat → Int32) (D L : Int32) (m k : Nat) (v : Int32) : Prop :=
  (v = -1 ∧ ∀ t, ¬ it_p C M anc chn hom yabs yname ylen yop yfi yse D L m k t) ∨ ∃ t, v = nI t ∧ it_p C M anc chn hom yabs yname ylen yop yfi yse D L m k t
theorem tp_fr {C M R : Nat} {ifc anc own chn par many hom rk rc rn xform xname xlen yabs yname ylen xop xcl xnu xsm xsl xca yop yfi yse xform' xname' xlen' xop' xcl' xnu' xsm' xsl' xca' : Nat → Int32}
    (h : tp_p C M R ifc anc own chn par many hom rk rc rn xform xname xlen yabs yname ylen xop xcl xnu xsm xsl xca yop yfi yse)
    (f1 : ∀ j, j < 30 → xform' j = xform j) (f2 : ∀ j, j < 30 → xname' j = xname j) (f3 : ∀ j, j < 30 → xlen' j = xlen j)
    (f4 : ∀ j, j < 720 → xop' j = xop j) (f5 : ∀ j, j < 720 → xcl' j = xcl j) (f6 : ∀ j, j < 720 → xnu' j = xnu j)
    (f7 : ∀ j, j < 720 → xsm' j = xsm j) (f8 : ∀ j, j < 720 → xsl' j = xsl j) (f9 : ∀ j, j < 720 → xca' j = xca j) :
    tp_p C M R ifc anc own chn par many hom rk rc rn xform' xname' xlen' yabs yname ylen xop' xcl' xnu' xsm' xsl' xca' yop yfi yse := by
  obtain ⟨h1, h2, h3, h4, h5, h6, h7, h8⟩ := h
  have hM := h3.1
  refine ⟨h1, h2, h3, fun m hm => ?_, h5, fun m k hm hk => ?_, h7, h8⟩
  · have z := h4 m hm
    unfold me_p at z ⊢
    rw [f1 m (by omega), f2 m (by omega), f3 m (by omega)]
    exact z
  · obtain ⟨_, ⟨l, l6, _, e⟩, _⟩ := h4 m hm
    have hl : hq_t (ylen m) = l := by rw [e]; exact hq_e (by omega)
    have z := h6 m k hm hk
    rw [f4 _ (by omega), f5 _ (by omega), f6 _ (by omega), f7 _ (by omega), f8 _ (by omega), f9 _ (by omega)]
    exact z
/-! ===== where things lie in the new program ===== -/
theorem il_u {C M : Nat} {anc chn hom yabs yname ylen yop yfi yse : Nat → Int32} {D L : Int32} {m k : Nat} {v w : Int32} (h : il_p C M anc chn hom yabs yname ylen yop yfi yse D L m k v)
    (g : il_p C M anc chn hom yabs yname ylen yop yfi yse D L m k w) : v = w := by
  rcases h with ⟨e, n⟩ | ⟨t, e, i⟩
  · rcases g with ⟨e', n'⟩ | ⟨t', e', i'⟩
    · rw [e, e']
    · exact absurd i' (n t')
  · rcases g with ⟨e', n'⟩ | ⟨t', e', i'⟩
    · exact absurd i (n' t)
    · rw [e, e', it_u i i']
noncomputable def il_v (C M : Nat) (anc chn hom yabs yname ylen yop yfi yse : Nat → Int32) (D L : Int32) (m k : Nat) : Int32 :=
  @dite Int32 (∃ t, it_p C M anc chn hom yabs yname ylen yop yfi yse D L m k t) (Classical.propDecidable _) (fun h => nI (Exists.choose h)) (fun _ => -1)
theorem il_e {C M : Nat} {anc chn hom yabs yname ylen yop yfi yse : Nat → Int32} {D L : Int32} (m k : Nat) : il_p C M anc chn hom yabs yname ylen yop yfi yse D L m k (il_v C M anc chn hom yabs yname ylen yop yfi yse D L m k) := by
  by_cases h : ∃ t, it_p C M anc chn hom yabs yname ylen yop yfi yse D L m k t
  · refine Or.inr ⟨Exists.choose h, ?_, Exists.choose_spec h⟩
    unfold il_v
    rw [dif_pos h]
  · refine Or.inl ⟨?_, fun t z => h ⟨t, z⟩⟩
    unfold il_v
    rw [dif_neg h]
noncomputable def il_f (C M : Nat) (anc chn hom yabs yname ylen yop yfi yse : Nat → Int32) (D L : Int32) (j : Nat) : Int32 := il_v C M anc chn hom yabs yname ylen yop yfi yse D L (j / 6) (j % 6)
def gy_n (inl ylen : Nat → Int32) (m x : Nat) : Nat := if x < hq_t (ylen m) ∧ ¬ inl (6 * m + x) < 0 then 1 + hq_t (ylen (hq_t (inl (6 * m + x)))) else 1
def po_n (inl ylen : Nat → Int32) (m x : Nat) : Nat := ps_n (gy_n inl ylen m) x
/-- the cells of line x of m in the new program; nv: the number that a line which isn't INLINED has there -/
def lc_p (inl ylen xop xcl xnu xsm xsl xca : Nat → Int32) (nv : Nat → Nat → Int32) (m x : Nat) : Prop :=
  (inl (6 * m + x) < 0 → xop (24 * (30 + m) + po_n inl ylen m x) = xop (24 * m + x) ∧ xcl (24 * (30 + m) + po_n inl ylen m x) = xcl (24 * m + x) ∧
    xnu (24 * (30 + m) + po_n inl ylen m x) = nv m x) ∧
  (¬ inl (6 * m + x) < 0 → xop (24 * (30 + m) + po_n inl ylen m x) = 6 ∧ xcl (24 * (30 + m) + po_n inl ylen m x) = (if xop (24 * m + x) = 3 then -1 else xcl (24 * m + x)) ∧
    xnu (24 * (30 + m) + po_n inl ylen m x) = 0 ∧
    ∀ i, i < hq_t (ylen (hq_t (inl (6 * m + x)))) →
      xop (24 * (30 + m) + po_n inl ylen m x + 1 + i) = xop (24 * hq_t (inl (6 * m + x)) + i) ∧
      xcl (24 * (30 + m) + po_n inl ylen m x + 1 + i) = -1 ∧
      xnu (24 * (30 + m) + po_n inl ylen m x + 1 + i) = xnu (24 * hq_t (inl (6 * m + x)) + i) ∧
      xsm (24 * (30 + m) + po_n inl ylen m x + 1 + i) = inl (6 * m + x) ∧
      xsl (24 * (30 + m) + po_n inl ylen m x + 1 + i) = nI i ∧
      xca (24 * (30 + m) + po_n inl ylen m x + 1 + i) = nI x) ∧
  xsm (24 * (30 + m) + po_n inl ylen m x) = nI m ∧ xsl (24 * (30 + m) + po_n inl ylen m x) = nI x ∧ xca (24 * (30 + m) + po_n inl ylen m x) = -1
end
section
/-! ===== the small methods: bits, descent, names ===== -/
theorem nt_t {b : Bool} (h : ¬ ¬ b = true) : b = true := Decidable.byContradiction h
theorem br_0 {A B : Prop} (a : A) : ((0 : Int32) = 0 → A) ∧ (¬ (0 : Int32) = 0 → B) := br_t rfl a
theorem br_1 {A B : Prop} (b : B) : ((1 : Int32) = 0 → A) ∧ (¬ (1 : Int32) = 0 → B) := br_f (by decide) b
theorem xh_p {post : Int32 → Prop} {s : Int32} {k : Nat} (hk : k < 32) (t : bt s k = true → post 1) (f : ¬ bt s k = true → post 0) : wpX_hasBit post s (nI k) := by
  unfold wpX_hasBit
  exact ek_if (bq_0 s hk) f (fun z => t (nt_t z))
theorem xh_b {A B : Prop} {s : Int32} {k : Nat} (hk : k < 32) (t : bt s k = true → B) (f : ¬ bt s k = true → A) : wpX_hasBit (fun r => (r = 0 → A) ∧ (¬ r = 0 → B)) s (nI k) :=
  xh_p hk (fun z => br_1 (t z)) (fun z => br_0 (f z))
theorem yb_p {post : Int32 → Prop} {s : Int32} {k : Nat} (hk : k < 32) (t : bt s k = true → post 1) (f : ¬ bt s k = true → post 0) : wpY_bit post s (nI k) := by
  unfold wpY_bit
  exact ek_if (bq_t s hk) t f
theorem yb_b {A B : Prop} {s : Int32} {k : Nat} (hk : k < 32) (t : bt s k = true → B) (f : ¬ bt s k = true → A) : wpY_bit (fun r => (r = 0 → A) ∧ (¬ r = 0 → B)) s (nI k) :=
  yb_p hk (fun z => br_1 (t z)) (fun z => br_0 (f z))
theorem nI_a30 (w m : Nat) : nI w * 30 + nI m = nI (30 * w + m) := by
  show nI w * nI 30 + nI m = _
  rw [pk_mul, nI_add, Nat.mul_comm]
theorem nI_b30 (m : Nat) : 30 + nI m = nI (30 + m) := nI_add 30 m
theorem nI_a24 (w m : Nat) : nI w * 24 + nI m = nI (24 * w + m) := by
  show nI w * nI 24 + nI m = _
  rw [pk_mul, nI_add, Nat.mul_comm]
theorem nI_a6 (w m : Nat) : 6 * nI w + nI m = nI (6 * w + m) := by
  show nI 6 * nI w + nI m = _
  rw [pk_mul, nI_add]
theorem nI_c {n : Nat} (h : n < 10000) : (nI n).toNatClampNeg = n := nI_clamp (by omega)
theorem sc_fp {p : Nat → Bool} {n : Nat} (h : p n = true) (e : sc_f p n = none) : sc_f p (n + 1) = some n := by
  rw [sc_fs, e]; exact if_pos h
theorem sc_fk {p : Nat → Bool} {n m : Nat} (e : sc_f p n = some m) : sc_f p (n + 1) = some m := by
  rw [sc_fs, e]
theorem sc_fq {p : Nat → Bool} {n : Nat} (h : ¬ p n = true) : sc_f p (n + 1) = sc_f p n := by
  cases e : sc_f p n with
  | none => rw [sc_fs, e]; exact if_neg h
  | some m => exact sc_fk e
theorem sc_lp {p : Nat → Bool} {n : Nat} (h : p n = true) : sc_l p (n + 1) = some n := by rw [sc_ls]; exact if_pos h
theorem sc_lq {p : Nat → Bool} {n : Nat} (h : ¬ p n = true) : sc_l p (n + 1) = sc_l p n := by rw [sc_ls]; exact if_neg h
theorem sc_fo {p : Nat → Bool} {n : Nat} (h : p n = true) (hn : n < 2 ^ 31) (y : oI (sc_f p n) = -1) : oI (sc_f p (n + 1)) = nI n := by
  cases e : sc_f p n with
  | none => rw [sc_fp h e]; rfl
  | some m =>
    rw [e] at y
    have := (sc_fe e).1
    exact absurd y (oI_n (by omega))
theorem sc_fo' {p : Nat → Bool} {n : Nat} (y : ¬ oI (sc_f p n) = -1) : oI (sc_f p (n + 1)) = oI (sc_f p n) := by
  cases e : sc_f p n with
  | none => rw [e] at y; exact absurd rfl y
  | some m => rw [sc_fk e]
section
variable {x_classCount x_methodCount x_ruleCount x_isBuilt x_faultPlace x_namedClasses x_madeClasses x_namedMethods x_liveMethods x_depth x_stepCount x_outCount x_traceCount : Int32} {x_isInterfaceClass x_chainOf x_interfacesOf x_ancestorsOf x_homeOf x_formOf x_nameOf x_lengthOf x_opOf x_classOf x_numberOf x_sourceMethod x_sourceLine x_callLine x_ruleKind x_ruleClasses x_ruleNames x_newNumber x_familyOf x_sightOf x_frameRow x_frameLine x_frameHeld x_outInts x_traceMethod x_traceLine : Nat → Int32}
theorem xd_b {A B : Prop} {c d : Nat} (hc : c < 10) (hd : d < 32) (t : bt (x_ancestorsOf c) d = true → B) (f : ¬ bt (x_ancestorsOf c) d = true → A) :
    wpX_descends (fun r => (r = 0 → A) ∧ (¬ r = 0 → B)) (x_classCount, x_methodCount, x_ruleCount, x_isBuilt, x_faultPlace, x_namedClasses, x_madeClasses, x_namedMethods, x_liveMethods, x_depth, x_stepCount, x_outCount, x_traceCount, x_isInterfaceClass, x_chainOf, x_interfacesOf, x_ancestorsOf, x_homeOf, x_formOf, x_nameOf, x_lengthOf, x_opOf, x_classOf, x_numberOf, x_sourceMethod, x_sourceLine, x_callLine, x_ruleKind, x_ruleClasses, x_ruleNames, x_newNumber, x_familyOf, x_sightOf, x_frameRow, x_frameLine, x_frameHeld, x_outInts, x_traceMethod, x_traceLine) (nI c) (nI d) := by
  unfold wpX_descends
  dsimp only
  rw [nI_c (by omega)]
  exact ⟨vp_in_nI hc (by decide), ek_if (bq_0 _ hd) (fun z => br_0 (f z)) (fun z => br_1 (t (nt_t z)))⟩
theorem xb_b {A B : Prop} {w m : Nat} {n : Int32} (hw : w < 2) (hm : m < 30) (t : ¬ x_formOf (30 * w + m) = 0 → x_nameOf (30 * w + m) = n → B)
    (f : ¬ (¬ x_formOf (30 * w + m) = 0 ∧ x_nameOf (30 * w + m) = n) → A) : wpX_bears (fun r => (r = 0 → A) ∧ (¬ r = 0 → B)) (x_classCount, x_methodCount, x_ruleCount, x_isBuilt, x_faultPlace, x_namedClasses, x_madeClasses, x_namedMethods, x_liveMethods, x_depth, x_stepCount, x_outCount, x_traceCount, x_isInterfaceClass, x_chainOf, x_interfacesOf, x_ancestorsOf, x_homeOf, x_formOf, x_nameOf, x_lengthOf, x_opOf, x_classOf, x_numberOf, x_sourceMethod, x_sourceLine, x_callLine, x_ruleKind, x_ruleClasses, x_ruleNames, x_newNumber, x_familyOf, x_sightOf, x_frameRow, x_frameLine, x_frameHeld, x_outInts, x_traceMethod, x_traceLine) (nI w) (nI m) n := by
  unfold wpX_bears
  dsimp only
  refine nm_r (nI_a30 w m) ?_
  rw [nI_c (by omega)]
  refine ⟨vp_in_nI (by omega) (by decide), br_c (fun z => br_0 (f (fun y => y.1 z))) (fun z => ⟨vp_in_nI (by omega) (by decide), br_c (fun y => br_1 (t z y)) (fun y => br_0 (f (fun x => y x.2)))⟩)⟩
/-- what X's search gives -/
theorem xf_l {post : Int32 → Prop} {C M w c : Nat} {n : Int32} (hC : C ≤ 10) (g : mh_ok C M x_homeOf) (hw : w < 2) (hc : c < C) (hs : ∀ i, bt (x_chainOf c) i = true → bt (x_ancestorsOf c) i = true)
    (b : Nat → Bool) (hb : ∀ m, m < M → (b m = true ↔ ¬ x_formOf (30 * w + m) = 0 ∧ x_nameOf (30 * w + m) = n)) (hM : x_methodCount = nI M)
    (hp : post (oI (fd_v M x_ancestorsOf x_chainOf x_homeOf b c))) :
    ∀ k i f, i + k = M → k < f → wX_find_9 post (nI w) (nI c) n x_classCount x_methodCount x_ruleCount x_isBuilt x_faultPlace x_namedClasses x_madeClasses x_namedMethods x_liveMethods x_depth x_stepCount x_outCount x_traceCount x_isInterfaceClass x_chainOf x_interfacesOf x_ancestorsOf x_homeOf x_formOf x_nameOf x_lengthOf x_opOf x_classOf x_numberOf x_sourceMethod x_sourceLine x_callLine x_ruleKind x_ruleClasses x_ruleNames x_newNumber x_familyOf x_sightOf x_frameRow x_frameLine x_frameHeld x_outInts x_traceMethod x_traceLine f (oI (sc_l (fun m => b m && bt (x_chainOf c) (hq_t (x_homeOf m))) i)) (oI (sc_f (fun m => b m && bt (x_ancestorsOf c) (hq_t (x_homeOf m))) i)) (nI i) := by
  have h30 := g.1
  intro k
  induction k with
  | zero =>
    intro i f e hf
    obtain ⟨f, rfl⟩ : ∃ q, f = q + 1 := ⟨f - 1, by omega⟩
    have e : i = M := by omega
    subst e
    rw [wX_find_9, hM]
    refine br_t (nI_le (Nat.le_refl _) (by omega)) ?_
    unfold fd_v at hp
    cases h : sc_l (fun m => b m && bt (x_chainOf c) (hq_t (x_homeOf m))) i with
    | none => rw [h] at hp; exact br_t rfl hp
    | some m =>
      rw [h] at hp
      have := (sc_le h).1
      exact br_f (oI_n (by omega)) hp
  | succ k ih =>
    intro i f e hf
    obtain ⟨f, rfl⟩ : ∃ q, f = q + 1 := ⟨f - 1, by omega⟩
    have nx := ih (i + 1) f (by omega) (by omega)
    have ho := mh_h g hC (m := i) (by omega)
    rw [wX_find_9]
    refine br_f (by rw [hM]; exact nI_ge (by omega) (by omega)) ?_
    refine xb_b hw (by omega) (fun y1 y2 => ?_) (fun y => ?_)
    · have bi : b i = true := (hb i (by omega)).mpr ⟨y1, y2⟩
      refine ⟨vp_in_nI (by omega) (by decide), ?_⟩
      rw [nI_c (by omega), ho.1]
      refine xd_b (by omega) (by omega) (fun z => ?_) (fun z => ?_)
      · have key : ∀ zz, zz = oI (sc_f (fun m => b m && bt (x_ancestorsOf c) (hq_t (x_homeOf m))) (i + 1)) →
            wX_find_57 post (wX_find_9 post (nI w) (nI c) n x_classCount x_methodCount x_ruleCount x_isBuilt x_faultPlace x_namedClasses x_madeClasses x_namedMethods x_liveMethods x_depth x_stepCount x_outCount x_traceCount x_isInterfaceClass x_chainOf x_interfacesOf x_ancestorsOf x_homeOf x_formOf x_nameOf x_lengthOf x_opOf x_classOf x_numberOf x_sourceMethod x_sourceLine x_callLine x_ruleKind x_ruleClasses x_ruleNames x_newNumber x_familyOf x_sightOf x_frameRow x_frameLine x_frameHeld x_outInts x_traceMethod x_traceLine f) (nI w) (nI c) n (oI (sc_l (fun m => b m && bt (x_chainOf c) (hq_t (x_homeOf m))) i)) (nI i) zz x_classCount x_methodCount x_ruleCount x_isBuilt x_faultPlace x_namedClasses x_madeClasses x_namedMethods x_liveMethods x_depth x_stepCount x_outCount x_traceCount x_isInterfaceClass x_chainOf x_interfacesOf x_ancestorsOf x_homeOf x_formOf x_nameOf x_lengthOf x_opOf x_classOf x_numberOf x_sourceMethod x_sourceLine x_callLine x_ruleKind x_ruleClasses x_ruleNames x_newNumber x_familyOf x_sightOf x_frameRow x_frameLine x_frameHeld x_outInts x_traceMethod x_traceLine := by
          intro zz ez
          unfold wX_find_57
          rw [nI_c (show c < 10000 by omega), nI_c (show i < 10000 by omega), ho.1, ez]
          refine ⟨vp_in_nI (by omega) (by decide), vp_in_nI (by omega) (by decide), ek_if (bq_0 _ (by omega)) (fun y => nm_r (nI_1 i) ?_) (fun y => nm_r (nI_1 i) ?_)⟩
          · rw [sc_lq (fun q => y (bb_a.mp q).2)] at nx; exact nx
          · rw [sc_lp (bb_a.mpr ⟨bi, nt_t y⟩)] at nx; exact nx
        have pi : (fun m => b m && bt (x_ancestorsOf c) (hq_t (x_homeOf m))) i = true := bb_a.mpr ⟨bi, z⟩
        exact br_c (fun y => key _ (sc_fo pi (by omega) y).symm) (fun y => key _ (sc_fo' y).symm)
      · rw [sc_lq (fun q => z (hs _ (bb_a.mp q).2)), sc_fq (fun q => z (bb_a.mp q).2)] at nx
        exact nm_r (nI_1 i) nx
    · have bi : ¬ b i = true := fun q => y ((hb i (by omega)).mp q)
      rw [sc_lq (fun q => bi (bb_a.mp q).1), sc_fq (fun q => bi (bb_a.mp q).1)] at nx
      exact nm_r (nI_1 i) nx
/-- X's search in the told or the new program, as a value -/
theorem xf_v {post : Int32 → Prop} {C M w c : Nat} {n : Int32} (hC : C ≤ 10) (g : mh_ok C M x_homeOf) (hw : w < 2) (hc : c < C) (hs : ∀ i, bt (x_chainOf c) i = true → bt (x_ancestorsOf c) i = true)
    (b : Nat → Bool) (hb : ∀ m, m < M → (b m = true ↔ ¬ x_formOf (30 * w + m) = 0 ∧ x_nameOf (30 * w + m) = n)) (hM : x_methodCount = nI M)
    (hp : post (oI (fd_v M x_ancestorsOf x_chainOf x_homeOf b c))) : wpX_find post (x_classCount, x_methodCount, x_ruleCount, x_isBuilt, x_faultPlace, x_namedClasses, x_madeClasses, x_namedMethods, x_liveMethods, x_depth, x_stepCount, x_outCount, x_traceCount, x_isInterfaceClass, x_chainOf, x_interfacesOf, x_ancestorsOf, x_homeOf, x_formOf, x_nameOf, x_lengthOf, x_opOf, x_classOf, x_numberOf, x_sourceMethod, x_sourceLine, x_callLine, x_ruleKind, x_ruleClasses, x_ruleNames, x_newNumber, x_familyOf, x_sightOf, x_frameRow, x_frameLine, x_frameHeld, x_outInts, x_traceMethod, x_traceLine) (nI w) (nI c) n := by
  unfold wpX_find
  exact ⟨M + 1, xf_l hC g hw hc hs b hb hM hp M 0 (M + 1) (by omega) (by omega)⟩
/-- the first of one home and name -/
theorem xm_l {post : Int32 → Prop} {M w c : Nat} {n : Int32} (h30 : M ≤ 30) (hw : w < 2) (hc : c < 10) (ho : ∀ m, m < M → x_homeOf m = nI (hq_t (x_homeOf m)) ∧ hq_t (x_homeOf m) < 10)
    (b : Nat → Bool) (hb : ∀ m, m < M → (b m = true ↔ ¬ x_formOf (30 * w + m) = 0 ∧ x_nameOf (30 * w + m) = n)) (hM : x_methodCount = nI M)
    (hp : post (oI (dc_v M x_homeOf b c))) :
    ∀ k i f, i + k = M → k < f → (∀ j, j < i → ¬ (decide (hq_t (x_homeOf j) = c) && b j) = true) → wX_methodIn_3 post (nI w) (nI c) n x_classCount x_methodCount x_ruleCount x_isBuilt x_faultPlace x_namedClasses x_madeClasses x_namedMethods x_liveMethods x_depth x_stepCount x_outCount x_traceCount x_isInterfaceClass x_chainOf x_interfacesOf x_ancestorsOf x_homeOf x_formOf x_nameOf x_lengthOf x_opOf x_classOf x_numberOf x_sourceMethod x_sourceLine x_callLine x_ruleKind x_ruleClasses x_ruleNames x_newNumber x_familyOf x_sightOf x_frameRow x_frameLine x_frameHeld x_outInts x_traceMethod x_traceLine f (nI i) := by
  intro k
  induction k with
  | zero =>
    intro i f e hf no
    obtain ⟨f, rfl⟩ : ∃ q, f = q + 1 := ⟨f - 1, by omega⟩
    have e : i = M := by omega
    subst e
    rw [wX_methodIn_3, hM]
    refine br_t (nI_le (Nat.le_refl _) (by omega)) ?_
    unfold dc_v at hp
    rw [sc_fN no] at hp
    exact hp
  | succ k ih =>
    intro i f e hf no
    obtain ⟨f, rfl⟩ : ∃ q, f = q + 1 := ⟨f - 1, by omega⟩
    have nx : ¬ (decide (hq_t (x_homeOf i) = c) && b i) = true → wX_methodIn_3 post (nI w) (nI c) n x_classCount x_methodCount x_ruleCount x_isBuilt x_faultPlace x_namedClasses x_madeClasses x_namedMethods x_liveMethods x_depth x_stepCount x_outCount x_traceCount x_isInterfaceClass x_chainOf x_interfacesOf x_ancestorsOf x_homeOf x_formOf x_nameOf x_lengthOf x_opOf x_classOf x_numberOf x_sourceMethod x_sourceLine x_callLine x_ruleKind x_ruleClasses x_ruleNames x_newNumber x_familyOf x_sightOf x_frameRow x_frameLine x_frameHeld x_outInts x_traceMethod x_traceLine f (nI (i + 1)) := fun y =>
      ih (i + 1) f (by omega) (by omega) (fun j hj => by
        rcases Nat.lt_or_ge j i with z | z
        · exact no j z
        · have : j = i := by omega
          subst this; exact y)
    have hi := ho i (by omega)
    rw [wX_methodIn_3]
    refine br_f (by rw [hM]; exact nI_ge (by omega) (by omega)) ⟨vp_in_nI (by omega) (by decide), ?_⟩
    rw [nI_c (by omega), hi.1]
    refine pk_eq (hq_t (x_homeOf i)) c (fun z => ?_) (fun z => nm_r (nI_1 i) (nx (fun q => z (of_decide_eq_true (bb_a.mp q).1))))
    refine xb_b hw (by omega) (fun y1 y2 => ?_) (fun y => nm_r (nI_1 i) (nx (fun q => y ((hb i (by omega)).mp (bb_a.mp q).2))))
    unfold dc_v at hp
    rw [sc_fI (m := i) (by omega) (bb_a.mpr ⟨decide_eq_true z, (hb i (by omega)).mpr ⟨y1, y2⟩⟩) no] at hp
    exact hp
theorem xm_v {post : Int32 → Prop} {M w c : Nat} {n : Int32} (h30 : M ≤ 30) (hw : w < 2) (hc : c < 10) (ho : ∀ m, m < M → x_homeOf m = nI (hq_t (x_homeOf m)) ∧ hq_t (x_homeOf m) < 10)
    (b : Nat → Bool) (hb : ∀ m, m < M → (b m = true ↔ ¬ x_formOf (30 * w + m) = 0 ∧ x_nameOf (30 * w + m) = n)) (hM : x_methodCount = nI M)
    (hp : post (oI (dc_v M x_homeOf b c))) : wpX_methodIn post (x_classCount, x_methodCount, x_ruleCount, x_isBuilt, x_faultPlace, x_namedClasses, x_madeClasses, x_namedMethods, x_liveMethods, x_depth, x_stepCount, x_outCount, x_traceCount, x_isInterfaceClass, x_chainOf, x_interfacesOf, x_ancestorsOf, x_homeOf, x_formOf, x_nameOf, x_lengthOf, x_opOf, x_classOf, x_numberOf, x_sourceMethod, x_sourceLine, x_callLine, x_ruleKind, x_ruleClasses, x_ruleNames, x_newNumber, x_familyOf, x_sightOf, x_frameRow, x_frameLine, x_frameHeld, x_outInts, x_traceMethod, x_traceLine) (nI w) (nI c) n := by
  unfold wpX_methodIn
  exact ⟨M + 1, xm_l h30 hw hc ho b hb hM hp M 0 (M + 1) (by omega) (by omega) (fun j hj => by omega)⟩
end
end
section
/-! ===== Y's search ===== -/
section
variable {y_classes y_methods y_rules y_place y_named y_made y_namedMethods y_live y_built y_depth y_steps y_outs y_ending : Int32} {y_isInterface y_isAbstract y_parent y_ancestors y_own y_many y_home y_name y_length y_op y_first y_second y_ruleKind y_ruleClasses y_ruleNames y_inlined y_number y_newName y_family y_vMethod y_vLine y_vHeld y_put : Nat → Int32}
theorem yd_l {post : Int32 → Prop} {M c : Nat} {n : Int32} (h30 : M ≤ 30) (hc : c < 10) (ho : ∀ m, m < M → y_home m = nI (hq_t (y_home m)) ∧ hq_t (y_home m) < 10) (hM : y_methods = nI M)
    (hp : post (oI (dc_v M y_home (fun m => decide (y_name m = n)) c))) :
    ∀ k i f, i + k = M → k < f → (∀ j, j < i → ¬ (decide (hq_t (y_home j) = c) && decide (y_name j = n)) = true) → wY_declared_2 post (nI c) n y_classes y_methods y_rules y_place y_named y_made y_namedMethods y_live y_built y_depth y_steps y_outs y_ending y_isInterface y_isAbstract y_parent y_ancestors y_own y_many y_home y_name y_length y_op y_first y_second y_ruleKind y_ruleClasses y_ruleNames y_inlined y_number y_newName y_family y_vMethod y_vLine y_vHeld y_put f (nI i) := by
  intro k
  induction k with
  | zero =>
    intro i f e hf no
    obtain ⟨f, rfl⟩ : ∃ q, f = q + 1 := ⟨f - 1, by omega⟩
    have e : i = M := by omega
    subst e
    rw [wY_declared_2, hM]
    refine br_t (nI_le (Nat.le_refl _) (by omega)) ?_
    unfold dc_v at hp
    rw [sc_fN no] at hp
    exact hp
  | succ k ih =>
    intro i f e hf no
    obtain ⟨f, rfl⟩ : ∃ q, f = q + 1 := ⟨f - 1, by omega⟩
    have nx : ¬ (decide (hq_t (y_home i) = c) && decide (y_name i = n)) = true → wY_declared_2 post (nI c) n y_classes y_methods y_rules y_place y_named y_made y_namedMethods y_live y_built y_depth y_steps y_outs y_ending y_isInterface y_isAbstract y_parent y_ancestors y_own y_many y_home y_name y_length y_op y_first y_second y_ruleKind y_ruleClasses y_ruleNames y_inlined y_number y_newName y_family y_vMethod y_vLine y_vHeld y_put f (nI (i + 1)) := fun y =>
      ih (i + 1) f (by omega) (by omega) (fun j hj => by
        rcases Nat.lt_or_ge j i with z | z
        · exact no j z
        · have : j = i := by omega
          subst this; exact y)
    have hi := ho i (by omega)
    rw [wY_declared_2]
    refine br_f (by rw [hM]; exact nI_ge (by omega) (by omega)) ⟨vp_in_nI (by omega) (by decide), ?_⟩
    rw [nI_c (by omega), hi.1]
    refine pk_eq (hq_t (y_home i)) c (fun z => ⟨vp_in_nI (by omega) (by decide), ?_⟩) (fun z => nm_r (nI_1 i) (nx (fun q => z (of_decide_eq_true (bb_a.mp q).1))))
    refine br_c (fun y => ?_) (fun y => nm_r (nI_1 i) (nx (fun q => y (of_decide_eq_true (bb_a.mp q).2))))
    unfold dc_v at hp
    rw [sc_fI (m := i) (by omega) (bb_a.mpr ⟨decide_eq_true z, decide_eq_true y⟩) no] at hp
    exact hp
theorem yd_v {post : Int32 → Prop} {M c : Nat} {n : Int32} (h30 : M ≤ 30) (hc : c < 10) (ho : ∀ m, m < M → y_home m = nI (hq_t (y_home m)) ∧ hq_t (y_home m) < 10) (hM : y_methods = nI M)
    (hp : post (oI (dc_v M y_home (fun m => decide (y_name m = n)) c))) : wpY_declared post (y_classes, y_methods, y_rules, y_place, y_named, y_made, y_namedMethods, y_live, y_built, y_depth, y_steps, y_outs, y_ending, y_isInterface, y_isAbstract, y_parent, y_ancestors, y_own, y_many, y_home, y_name, y_length, y_op, y_first, y_second, y_ruleKind, y_ruleClasses, y_ruleNames, y_inlined, y_number, y_newName, y_family, y_vMethod, y_vLine, y_vHeld, y_put) (nI c) n := by
  unfold wpY_declared
  exact ⟨M + 1, yd_l h30 hc ho hM hp M 0 (M + 1) (by omega) (by omega) (fun j hj => by omega)⟩
theorem mh_10 {C M : Nat} {hom : Nat → Int32} (g : mh_ok C M hom) (hC : C ≤ 10) : ∀ m, m < M → hom m = nI (hq_t (hom m)) ∧ hq_t (hom m) < 10 := fun m hm => by
  have := mh_h g hC hm
  exact ⟨this.1, by omega⟩
theorem dc_b {M c m : Nat} {hom : Nat → Int32} {q : Nat → Bool} (h30 : M ≤ 30) (h : dc_v M hom q c = some m) : m < 30 := by
  have := (sc_fe h).1
  omega
theorem oI_lt {o : Option Nat} (h : ∀ m, o = some m → m < 2 ^ 31) {A B : Prop} (n : o = none → A) (s : ∀ m, o = some m → B) : (oI o < 0 → A) ∧ (¬ oI o < 0 → B) := by
  cases e : o with
  | none => exact br_t (by decide) (n e)
  | some m => exact br_f (nI_pos (h m e)) (s m e)
theorem yf_a {post : Int32 → Prop} {C M c : Nat} {n : Int32} (hC : C ≤ 10) (g : mh_ok C M y_home) (hc : c < C) (hCC : y_classes = nI C) (hM : y_methods = nI M)
    (hp : post (oI (sc_f (fun m => decide (y_name m = n) && bt (y_ancestors c) (hq_t (y_home m))) M))) :
    ∀ k i f, i + k = C → k < f → (∀ e, e < i → bt (y_ancestors c) e = true → dc_v M y_home (fun m => decide (y_name m = n)) e = none) → wY_finds_34 post (nI c) n y_classes y_methods y_rules y_place y_named y_made y_namedMethods y_live y_built y_depth y_steps y_outs y_ending y_isInterface y_isAbstract y_parent y_ancestors y_own y_many y_home y_name y_length y_op y_first y_second y_ruleKind y_ruleClasses y_ruleNames y_inlined y_number y_newName y_family y_vMethod y_vLine y_vHeld y_put f (nI i) := by
  have h30 := g.1
  intro k
  induction k with
  | zero =>
    intro i f e hf no
    obtain ⟨f, rfl⟩ : ∃ q, f = q + 1 := ⟨f - 1, by omega⟩
    have e : i = C := by omega
    subst e
    rw [wY_finds_34, hCC]
    refine br_t (nI_le (Nat.le_refl _) (by omega)) ?_
    rw [an_n g hC no] at hp
    exact hp
  | succ k ih =>
    intro i f e hf no
    obtain ⟨f, rfl⟩ : ∃ q, f = q + 1 := ⟨f - 1, by omega⟩
    have nx : (bt (y_ancestors c) i = true → dc_v M y_home (fun m => decide (y_name m = n)) i = none) → wY_finds_34 post (nI c) n y_classes y_methods y_rules y_place y_named y_made y_namedMethods y_live y_built y_depth y_steps y_outs y_ending y_isInterface y_isAbstract y_parent y_ancestors y_own y_many y_home y_name y_length y_op y_first y_second y_ruleKind y_ruleClasses y_ruleNames y_inlined y_number y_newName y_family y_vMethod y_vLine y_vHeld y_put f (nI (i + 1)) := fun y =>
      ih (i + 1) f (by omega) (by omega) (fun j hj b => by
        rcases Nat.lt_or_ge j i with z | z
        · exact no j z b
        · have : j = i := by omega
          subst this; exact y b)
    rw [wY_finds_34]
    refine br_f (by rw [hCC]; exact nI_ge (by omega) (by omega)) ⟨vp_in_nI (by omega) (by decide), ?_⟩
    rw [nI_c (show c < 10000 by omega)]
    refine yb_b (by omega) (fun z => ?_) (fun z => ?_)
    · refine yd_v h30 (by omega) (mh_10 g hC) hM ?_
      unfold wY_finds_65
      refine oI_lt (fun m e => by have := dc_b h30 e; omega) (fun e => nm_r (nI_1 i) (nx (fun _ => e))) (fun m e => ?_)
      rw [an_s g no z e] at hp
      rw [e]
      exact hp
    · unfold wY_finds_65
      exact br_t (by decide) (nm_r (nI_1 i) (nx (fun q => absurd q z)))
theorem yf_c {post : Int32 → Prop} {C M c : Nat} {n : Int32} {chn : Nat → Int32} (hh : hi_ok C y_isInterface y_ancestors chn y_parent) (g : mh_ok C M y_home) (un : un_ok M y_home (fun m => decide (y_name m = n)))
    (hc : c < C) (hCC : y_classes = nI C) (hM : y_methods = nI M) (hp : post (oI (fo_v M y_ancestors chn y_home y_name c n))) :
    ∀ d f, d < C → d + 1 < f → sc_l (fun m => decide (y_name m = n) && bt (chn c) (hq_t (y_home m))) M = sc_l (fun m => decide (y_name m = n) && bt (chn d) (hq_t (y_home m))) M →
      wY_finds_2 post (nI c) n y_classes y_methods y_rules y_place y_named y_made y_namedMethods y_live y_built y_depth y_steps y_outs y_ending y_isInterface y_isAbstract y_parent y_ancestors y_own y_many y_home y_name y_length y_op y_first y_second y_ruleKind y_ruleClasses y_ruleNames y_inlined y_number y_newName y_family y_vMethod y_vLine y_vHeld y_put f (nI d) := by
  have h30 := g.1
  have hC := hh.1
  have last : ∀ f, 0 < f → sc_l (fun m => decide (y_name m = n) && bt (chn c) (hq_t (y_home m))) M = none → wY_finds_2 post (nI c) n y_classes y_methods y_rules y_place y_named y_made y_namedMethods y_live y_built y_depth y_steps y_outs y_ending y_isInterface y_isAbstract y_parent y_ancestors y_own y_many y_home y_name y_length y_op y_first y_second y_ruleKind y_ruleClasses y_ruleNames y_inlined y_number y_newName y_family y_vMethod y_vLine y_vHeld y_put f (-1) := by
    intro f hf e
    obtain ⟨f, rfl⟩ : ∃ q, f = q + 1 := ⟨f - 1, by omega⟩
    unfold fo_v fd_v at hp
    rw [e] at hp
    rw [wY_finds_2]
    exact br_t (by decide) ⟨C + 1, yf_a hC g hc hCC hM hp C 0 (C + 1) (by omega) (by omega) (fun e he => by omega)⟩
  intro d
  induction d using Nat.strongRecOn with
  | ind d ih =>
    intro f hd hf se
    obtain ⟨f, rfl⟩ : ∃ q, f = q + 1 := ⟨f - 1, by omega⟩
    rw [wY_finds_2]
    refine br_f (nI_pos (by omega)) (yd_v h30 (by omega) (mh_10 g hC) hM ?_)
    refine oI_lt (fun m e => by have := dc_b h30 e; omega) (fun e => ⟨vp_in_nI (by omega) (by decide), ?_⟩) (fun m e => ?_)
    · rw [nI_c (by omega)]
      rcases ch_n hh hd e with ⟨p1, p2⟩ | ⟨p, p0, p1, p2⟩
      · exact nm_r p1 (last f (by omega) (se.trans p2))
      · exact nm_r p1 (ih p p0 f (by omega) (by omega) (se.trans p2))
    · have v := se.trans (ch_s hh g un hd e)
      unfold fo_v fd_v at hp
      rw [v] at hp
      rw [e]
      exact hp
theorem yf_v {post : Int32 → Prop} {C M c : Nat} {n : Int32} {chn : Nat → Int32} (hh : hi_ok C y_isInterface y_ancestors chn y_parent) (g : mh_ok C M y_home) (un : un_ok M y_home (fun m => decide (y_name m = n)))
    (hc : c < C) (hCC : y_classes = nI C) (hM : y_methods = nI M) (hp : post (oI (fo_v M y_ancestors chn y_home y_name c n))) : wpY_finds post (y_classes, y_methods, y_rules, y_place, y_named, y_made, y_namedMethods, y_live, y_built, y_depth, y_steps, y_outs, y_ending, y_isInterface, y_isAbstract, y_parent, y_ancestors, y_own, y_many, y_home, y_name, y_length, y_op, y_first, y_second, y_ruleKind, y_ruleClasses, y_ruleNames, y_inlined, y_number, y_newName, y_family, y_vMethod, y_vLine, y_vHeld, y_put) (nI c) n := by
  unfold wpY_finds
  exact ⟨c + 2, yf_c hh g un hc hCC hM hp c (c + 2) hc (by omega) rfl⟩
end
end
section
/-! ===== what is wrong: both sides ===== -/
theorem oI_s (t : Nat) : oI (some t) = nI t := rfl
def ff_r : Option Nat → Int32
  | none => -1
  | some k => nI (8 * (k / 6) + k % 6)
theorem fl_0 {C : Nat} {ifc yabs : Nat → Int32} {F : Nat → Int32 → Option Nat} {o c n : Int32} (h : o = 0 ∨ o = 5) : fl_v C ifc yabs F o c n = 0 := if_pos h
theorem fl_1 {C : Nat} {ifc yabs : Nat → Int32} {F : Nat → Int32 → Option Nat} {o c n : Int32} (h : ¬ (o = 0 ∨ o = 5)) (g : C ≤ hq_t c) : fl_v C ifc yabs F o c n = 1 := by
  unfold fl_v; rw [if_neg h, if_pos g]
theorem fl_2 {C : Nat} {ifc yabs : Nat → Int32} {F : Nat → Int32 → Option Nat} {c n : Int32} (g : ¬ C ≤ hq_t c) : fl_v C ifc yabs F 1 c n = if ifc (hq_t c) = 0 then 0 else 2 := by
  unfold fl_v; rw [if_neg (by decide), if_neg g, if_pos rfl]
theorem fl_4 {C : Nat} {ifc yabs : Nat → Int32} {F : Nat → Int32 → Option Nat} {c n : Int32} (g : ¬ C ≤ hq_t c) : fl_v C ifc yabs F 4 c n = 0 := by
  unfold fl_v; rw [if_neg (by decide), if_neg g, if_neg (by decide), if_pos rfl]
theorem fl_n {C : Nat} {ifc yabs : Nat → Int32} {F : Nat → Int32 → Option Nat} {o c n : Int32} (h : o = 2 ∨ o = 3) (g : ¬ C ≤ hq_t c) (e : F (hq_t c) n = none) : fl_v C ifc yabs F o c n = 3 := by
  unfold fl_v
  rcases h with h | h <;> subst h <;> rw [if_neg (by decide), if_neg g, if_neg (by decide), if_neg (by decide), e]
theorem fl_m {C : Nat} {ifc yabs : Nat → Int32} {F : Nat → Int32 → Option Nat} {o c n : Int32} {m : Nat} (h : o = 2 ∨ o = 3) (g : ¬ C ≤ hq_t c) (e : F (hq_t c) n = some m) :
    fl_v C ifc yabs F o c n = if o = 3 ∧ ¬ yabs m = 0 then 3 else 0 := by
  unfold fl_v
  rcases h with h | h <;> subst h <;> rw [if_neg (by decide), if_neg g, if_neg (by decide), if_neg (by decide), e]
section
variable {x_classCount x_methodCount x_ruleCount x_isBuilt x_faultPlace x_namedClasses x_madeClasses x_namedMethods x_liveMethods x_depth x_stepCount x_outCount x_traceCount : Int32} {x_isInterfaceClass x_chainOf x_interfacesOf x_ancestorsOf x_homeOf x_formOf x_nameOf x_lengthOf x_opOf x_classOf x_numberOf x_sourceMethod x_sourceLine x_callLine x_ruleKind x_ruleClasses x_ruleNames x_newNumber x_familyOf x_sightOf x_frameRow x_frameLine x_frameHeld x_outInts x_traceMethod x_traceLine : Nat → Int32} {y_parent y_many y_isAbstract y_name y_length y_op y_first y_second : Nat → Int32} {C M R : Nat}
theorem tp_un (T : tp_p C M R x_isInterfaceClass x_ancestorsOf x_interfacesOf x_chainOf y_parent y_many x_homeOf x_ruleKind x_ruleClasses x_ruleNames x_formOf x_nameOf x_lengthOf y_isAbstract y_name y_length x_opOf x_classOf x_numberOf x_sourceMethod x_sourceLine x_callLine y_op y_first y_second) (n : Int32) : un_ok M x_homeOf (fun m => decide (y_name m = n)) := fun a b ha hb qa qb eh =>
  T.2.2.2.2.1 a b ha hb ((of_decide_eq_true qa).trans (of_decide_eq_true qb).symm) eh
theorem tp_len (T : tp_p C M R x_isInterfaceClass x_ancestorsOf x_interfacesOf x_chainOf y_parent y_many x_homeOf x_ruleKind x_ruleClasses x_ruleNames x_formOf x_nameOf x_lengthOf y_isAbstract y_name y_length x_opOf x_classOf x_numberOf x_sourceMethod x_sourceLine x_callLine y_op y_first y_second) {m : Nat} (hm : m < M) : x_lengthOf m = nI (hq_t (y_length m)) ∧ y_length m = nI (hq_t (y_length m)) ∧ hq_t (y_length m) ≤ 6 := by
  obtain ⟨_, ⟨l, l6, e1, e2⟩, _⟩ := T.2.2.2.1 m hm
  rw [e2, hq_e (by omega)]
  exact ⟨e1, rfl, l6⟩
/-- X's search in the told program -/
theorem xo_v (T : tp_p C M R x_isInterfaceClass x_ancestorsOf x_interfacesOf x_chainOf y_parent y_many x_homeOf x_ruleKind x_ruleClasses x_ruleNames x_formOf x_nameOf x_lengthOf y_isAbstract y_name y_length x_opOf x_classOf x_numberOf x_sourceMethod x_sourceLine x_callLine y_op y_first y_second) (hM : x_methodCount = nI M) {post : Int32 → Prop} {c : Nat} {n : Int32} (hc : c < C) (hp : post (oI (fo_v M x_ancestorsOf x_chainOf x_homeOf y_name c n))) :
    wpX_find post (x_classCount, x_methodCount, x_ruleCount, x_isBuilt, x_faultPlace, x_namedClasses, x_madeClasses, x_namedMethods, x_liveMethods, x_depth, x_stepCount, x_outCount, x_traceCount, x_isInterfaceClass, x_chainOf, x_interfacesOf, x_ancestorsOf, x_homeOf, x_formOf, x_nameOf, x_lengthOf, x_opOf, x_classOf, x_numberOf, x_sourceMethod, x_sourceLine, x_callLine, x_ruleKind, x_ruleClasses, x_ruleNames, x_newNumber, x_familyOf, x_sightOf, x_frameRow, x_frameLine, x_frameHeld, x_outInts, x_traceMethod, x_traceLine) 0 (nI c) n :=
  xf_v (w := 0) T.1.1 T.2.2.1 (by decide) hc (fun i => (T.1.2 c hc).2.2.2.1 i) (fun m => decide (y_name m = n)) (fun m hm => by
    obtain ⟨⟨k, _, e1, e2⟩, _, e3, _⟩ := T.2.2.2.1 m hm
    rw [Nat.mul_zero, Nat.zero_add, decide_eq_true_eq, e1, e2]
    refine ⟨fun z => ⟨?_, z⟩, fun z => z.2⟩
    rcases e3 with ⟨_, e⟩ | ⟨_, e⟩ <;> rw [e] <;> decide) hM hp
theorem xw_v (T : tp_p C M R x_isInterfaceClass x_ancestorsOf x_interfacesOf x_chainOf y_parent y_many x_homeOf x_ruleKind x_ruleClasses x_ruleNames x_formOf x_nameOf x_lengthOf y_isAbstract y_name y_length x_opOf x_classOf x_numberOf x_sourceMethod x_sourceLine x_callLine y_op y_first y_second) (hC : x_classCount = nI C) (hM : x_methodCount = nI M) {post : Int32 → Prop} {m k : Nat} (hm : m < M) (hk : k < hq_t (y_length m))
    (hp : post (fl_v C x_isInterfaceClass y_isAbstract (fo_v M x_ancestorsOf x_chainOf x_homeOf y_name) (y_op (6 * m + k)) (y_first (6 * m + k)) (y_second (6 * m + k)))) :
    wpX_faultOf post (x_classCount, x_methodCount, x_ruleCount, x_isBuilt, x_faultPlace, x_namedClasses, x_madeClasses, x_namedMethods, x_liveMethods, x_depth, x_stepCount, x_outCount, x_traceCount, x_isInterfaceClass, x_chainOf, x_interfacesOf, x_ancestorsOf, x_homeOf, x_formOf, x_nameOf, x_lengthOf, x_opOf, x_classOf, x_numberOf, x_sourceMethod, x_sourceLine, x_callLine, x_ruleKind, x_ruleClasses, x_ruleNames, x_newNumber, x_familyOf, x_sightOf, x_frameRow, x_frameLine, x_frameHeld, x_outInts, x_traceMethod, x_traceLine) (nI (24 * m + k)) := by
  have h30 := T.2.2.1.1
  have h10 := T.1.1
  have hl := (tp_len T hm).2.2
  obtain ⟨o, o6, e1, e2, e3, e4, e5, _, _, _⟩ := T.2.2.2.2.2.1 m k hm hk
  rw [e2] at hp
  unfold wpX_faultOf
  dsimp only
  rw [nI_c (by omega)]
  refine ⟨vp_in_nI (by omega) (by decide), nm_r e1 ⟨vp_in_nI (by omega) (by decide), ?_⟩⟩
  by_cases oc : 1 ≤ o ∧ o ≤ 4
  · obtain ⟨c, c10, f1, f2⟩ := e3 oc
    rw [f2] at hp
    have no : ¬ (nI o = 0 ∨ nI o = 5) := by
      rintro (z | z)
      · have := (nI_eq (a := o) (b := 0) (by omega) (by omega)).mp z; omega
      · have := (nI_eq (a := o) (b := 5) (by omega) (by omega)).mp z; omega
    refine nm_r f1 (br_f (oI_n (by omega)) ?_)
    rw [hC]
    refine pk_lt c C (fun cl => ?_) (fun cl => ?_)
    · have ncl : ¬ C ≤ hq_t (nI c) := by rw [hq_e (by omega)]; omega
      refine pk_eq o 1 (fun z => ?_) (fun z1 => ?_)
      · subst z
        refine ⟨vp_in_nI (by omega) (by decide), ?_⟩
        have v := fl_2 (ifc := x_isInterfaceClass) (yabs := y_isAbstract) (F := fo_v M x_ancestorsOf x_chainOf x_homeOf y_name) (n := y_second (6 * m + k)) ncl
        have hp' := hp
        rw [show nI 1 = (1 : Int32) from rfl, v, hq_e (by omega)] at hp'
        rw [nI_c (by omega)]
        refine br_c (fun z => ?_) (fun z => ?_)
        · rw [if_pos z] at hp'; exact hp'
        · rw [if_neg z] at hp'; exact hp'
      · refine pk_eq o 4 (fun z => ?_) (fun z4 => ?_)
        · subst z
          have v := fl_4 (ifc := x_isInterfaceClass) (yabs := y_isAbstract) (F := fo_v M x_ancestorsOf x_chainOf x_homeOf y_name) (n := y_second (6 * m + k)) ncl
          rw [show nI 4 = (4 : Int32) from rfl, v] at hp
          exact hp
        · have o23 : o = 2 ∨ o = 3 := by omega
          have o23' : nI o = 2 ∨ nI o = 3 := by
            rcases o23 with z | z
            · subst z; exact Or.inl rfl
            · subst z; exact Or.inr rfl
          obtain ⟨n, n10, g1, g2⟩ := e5 o23
          rw [g2] at hp
          refine ⟨vp_in_nI (by omega) (by decide), ?_⟩
          rw [g1]
          refine xo_v T hM cl ?_
          have hce : hq_t (nI c) = c := hq_e (by omega)
          cases e : fo_v M x_ancestorsOf x_chainOf x_homeOf y_name c (nI n) with
          | none =>
            rw [fl_n o23' ncl (by rw [hce]; exact e)] at hp
            exact br_t rfl hp
          | some t =>
            have tM := (fd_s T.1 cl e).1
            rw [fl_m o23' ncl (by rw [hce]; exact e)] at hp
            refine br_f (oI_n (by omega)) (br_c (fun z => ?_) (fun z => ?_))
            · refine ⟨vp_in_nI (by omega) (by decide), ?_⟩
              rw [oI_s, nI_c (by omega)]
              rcases (T.2.2.2.1 t tM).2.2.1 with ⟨a1, a2⟩ | ⟨a1, a2⟩
              · rw [if_neg (fun q => q.2 a1)] at hp; exact br_t a2 hp
              · rw [if_pos ⟨z, a1⟩] at hp; exact br_f (by rw [a2]; decide) hp
            · rw [if_neg (fun q => z q.1)] at hp; exact hp
    · rw [fl_1 no (by rw [hq_e (by omega)]; exact cl)] at hp
      exact hp
  · have z : nI o = 0 ∨ nI o = 5 := by
      have : o = 0 ∨ o = 5 := by omega
      rcases this with z | z
      · subst z; exact Or.inl rfl
      · subst z; exact Or.inr rfl
    rw [fl_0 z] at hp
    exact nm_r (e4 oc) (br_t rfl hp)
theorem fb_i {m k : Nat} (h6 : k < 6) : fb_p C M x_isInterfaceClass x_ancestorsOf x_chainOf x_homeOf y_isAbstract y_name y_length y_op y_first y_second (6 * m + k) = true ↔ k < hq_t (y_length m) ∧ ¬ fl_v C x_isInterfaceClass y_isAbstract (fo_v M x_ancestorsOf x_chainOf x_homeOf y_name) (y_op (6 * m + k)) (y_first (6 * m + k)) (y_second (6 * m + k)) = 0 := by
  have e1 : (6 * m + k) / 6 = m := by omega
  have e2 : (6 * m + k) % 6 = k := by omega
  unfold fb_p
  rw [e1, e2, bb_a, decide_eq_true_eq, decide_eq_true_eq]
theorem xp_i (T : tp_p C M R x_isInterfaceClass x_ancestorsOf x_interfacesOf x_chainOf y_parent y_many x_homeOf x_ruleKind x_ruleClasses x_ruleNames x_formOf x_nameOf x_lengthOf y_isAbstract y_name y_length x_opOf x_classOf x_numberOf x_sourceMethod x_sourceLine x_callLine y_op y_first y_second) (hC : x_classCount = nI C) (hM : x_methodCount = nI M) {post : Int32 → Prop} {J : Int32 → Prop} {m : Nat} (hm : m < M)
    (hp : post (ff_r (ff_v C M x_isInterfaceClass x_ancestorsOf x_chainOf x_homeOf y_isAbstract y_name y_length y_op y_first y_second))) (hJ : (∀ j, j < 6 * (m + 1) → ¬ fb_p C M x_isInterfaceClass x_ancestorsOf x_chainOf x_homeOf y_isAbstract y_name y_length y_op y_first y_second j = true) → J (nI (m + 1))) :
    ∀ q k f, k + q = hq_t (y_length m) → q < f → (∀ j, j < 6 * m + k → ¬ fb_p C M x_isInterfaceClass x_ancestorsOf x_chainOf x_homeOf y_isAbstract y_name y_length y_op y_first y_second j = true) → wX_firstFaultPlace_12 post J (nI m) x_classCount x_methodCount x_ruleCount x_isBuilt x_faultPlace x_namedClasses x_madeClasses x_namedMethods x_liveMethods x_depth x_stepCount x_outCount x_traceCount x_isInterfaceClass x_chainOf x_interfacesOf x_ancestorsOf x_homeOf x_formOf x_nameOf x_lengthOf x_opOf x_classOf x_numberOf x_sourceMethod x_sourceLine x_callLine x_ruleKind x_ruleClasses x_ruleNames x_newNumber x_familyOf x_sightOf x_frameRow x_frameLine x_frameHeld x_outInts x_traceMethod x_traceLine f (nI k) := by
  have h30 := T.2.2.1.1
  obtain ⟨l1, l2, l6⟩ := tp_len T hm
  intro q
  induction q with
  | zero =>
    intro k f e hf no
    obtain ⟨f, rfl⟩ : ∃ q, f = q + 1 := ⟨f - 1, by omega⟩
    rw [wX_firstFaultPlace_12]
    refine ⟨vp_in_nI (by omega) (by decide), ?_⟩
    rw [nI_c (by omega), l1]
    refine br_t (nI_le (by omega) (by omega)) (nm_r (nI_1 m) (hJ (fun j hj z => ?_)))
    rcases Nat.lt_or_ge j (6 * m + k) with y | y
    · exact no j y z
    · obtain ⟨i, rfl⟩ : ∃ i, j = 6 * m + i := ⟨j - 6 * m, by omega⟩
      have := ((fb_i (by omega)).mp z).1
      omega
  | succ q ih =>
    intro k f e hf no
    obtain ⟨f, rfl⟩ : ∃ q, f = q + 1 := ⟨f - 1, by omega⟩
    rw [wX_firstFaultPlace_12]
    refine ⟨vp_in_nI (by omega) (by decide), ?_⟩
    rw [nI_c (by omega), l1]
    refine br_f (nI_ge (by omega) (by omega)) ?_
    rw [nI_a24]
    refine xw_v T hC hM hm (by omega) (br_c (fun z => ?_) (fun z => ?_))
    · refine nm_r (nI_1 k) (ih (k + 1) f (by omega) (by omega) (fun j hj y => ?_))
      rcases Nat.lt_or_ge j (6 * m + k) with w | w
      · exact no j w y
      · have : j = 6 * m + k := by omega
        subst this
        exact ((fb_i (by omega)).mp y).2 z
    · have v : ff_v C M x_isInterfaceClass x_ancestorsOf x_chainOf x_homeOf y_isAbstract y_name y_length y_op y_first y_second = some (6 * m + k) := sc_fI (by omega) ((fb_i (by omega)).mpr ⟨by omega, z⟩) no
      rw [v] at hp
      have e1 : (6 * m + k) / 6 = m := by omega
      have e2 : (6 * m + k) % 6 = k := by omega
      have hp : post (nI (8 * ((6 * m + k) / 6) + (6 * m + k) % 6)) := hp
      rw [e1, e2] at hp
      show post (nI 8 * nI m + nI k)
      rw [pk_mul, nI_add]
      exact hp
theorem xp_v (T : tp_p C M R x_isInterfaceClass x_ancestorsOf x_interfacesOf x_chainOf y_parent y_many x_homeOf x_ruleKind x_ruleClasses x_ruleNames x_formOf x_nameOf x_lengthOf y_isAbstract y_name y_length x_opOf x_classOf x_numberOf x_sourceMethod x_sourceLine x_callLine y_op y_first y_second) (hC : x_classCount = nI C) (hM : x_methodCount = nI M) {post : Int32 → Prop} (hp : post (ff_r (ff_v C M x_isInterfaceClass x_ancestorsOf x_chainOf x_homeOf y_isAbstract y_name y_length y_op y_first y_second))) : wpX_firstFaultPlace post (x_classCount, x_methodCount, x_ruleCount, x_isBuilt, x_faultPlace, x_namedClasses, x_madeClasses, x_namedMethods, x_liveMethods, x_depth, x_stepCount, x_outCount, x_traceCount, x_isInterfaceClass, x_chainOf, x_interfacesOf, x_ancestorsOf, x_homeOf, x_formOf, x_nameOf, x_lengthOf, x_opOf, x_classOf, x_numberOf, x_sourceMethod, x_sourceLine, x_callLine, x_ruleKind, x_ruleClasses, x_ruleNames, x_newNumber, x_familyOf, x_sightOf, x_frameRow, x_frameLine, x_frameHeld, x_outInts, x_traceMethod, x_traceLine) := by
  have h30 := T.2.2.1.1
  have lo : ∀ q m f, m + q = M → q < f → (∀ j, j < 6 * m → ¬ fb_p C M x_isInterfaceClass x_ancestorsOf x_chainOf x_homeOf y_isAbstract y_name y_length y_op y_first y_second j = true) → wX_firstFaultPlace_2 post x_classCount x_methodCount x_ruleCount x_isBuilt x_faultPlace x_namedClasses x_madeClasses x_namedMethods x_liveMethods x_depth x_stepCount x_outCount x_traceCount x_isInterfaceClass x_chainOf x_interfacesOf x_ancestorsOf x_homeOf x_formOf x_nameOf x_lengthOf x_opOf x_classOf x_numberOf x_sourceMethod x_sourceLine x_callLine x_ruleKind x_ruleClasses x_ruleNames x_newNumber x_familyOf x_sightOf x_frameRow x_frameLine x_frameHeld x_outInts x_traceMethod x_traceLine f (nI m) := by
    intro q
    induction q with
    | zero =>
      intro m f e hf no
      obtain ⟨f, rfl⟩ : ∃ q, f = q + 1 := ⟨f - 1, by omega⟩
      have e : m = M := by omega
      subst e
      rw [wX_firstFaultPlace_2, hM]
      have v : ff_v C m x_isInterfaceClass x_ancestorsOf x_chainOf x_homeOf y_isAbstract y_name y_length y_op y_first y_second = none := sc_fN no
      rw [v] at hp
      exact br_t (nI_le (Nat.le_refl _) (by omega)) hp
    | succ q ih =>
      intro m f e hf no
      obtain ⟨f, rfl⟩ : ∃ q, f = q + 1 := ⟨f - 1, by omega⟩
      rw [wX_firstFaultPlace_2]
      refine br_f (by rw [hM]; exact nI_ge (by omega) (by omega)) ⟨hq_t (y_length m) + 1, ?_⟩
      exact xp_i T hC hM (by omega) hp (fun z => ih (m + 1) f (by omega) (by omega) z) (hq_t (y_length m)) 0 _ (by omega) (by omega) no
  unfold wpX_firstFaultPlace
  exact ⟨M + 1, lo M 0 (M + 1) (by omega) (by omega) (fun j hj => by omega)⟩
end
end
section
theorem nI_d6 {i : Nat} (h : i < 10000) : nI i / 6 = nI (i / 6) := pk_div (d := 6) (by omega) (by decide) (by decide)
theorem nI_r6 {i : Nat} (h : i < 10000) : nI i - nI i / 6 * 6 = nI (i % 6) := pk_rem (d := 6) (by omega) (by decide) (by decide)
theorem nI_m6 (i : Nat) : 6 * nI i = nI (6 * i) := pk_mul 6 i
section
variable {y_classes y_methods y_rules y_place y_named y_made y_namedMethods y_live y_built y_depth y_steps y_outs y_ending : Int32} {y_isInterface y_isAbstract y_parent y_ancestors y_own y_many y_home y_name y_length y_op y_first y_second y_ruleKind y_ruleClasses y_ruleNames y_inlined y_number y_newName y_family y_vMethod y_vLine y_vHeld y_put : Nat → Int32} {chn xform xname xlen xop xcl xnu xsm xsl xca : Nat → Int32} {C M R : Nat}
theorem ty_un (T : tp_p C M R y_isInterface y_ancestors y_own chn y_parent y_many y_home y_ruleKind y_ruleClasses y_ruleNames xform xname xlen y_isAbstract y_name y_length xop xcl xnu xsm xsl xca y_op y_first y_second) (n : Int32) : un_ok M y_home (fun m => decide (y_name m = n)) := fun a b ha hb qa qb eh =>
  T.2.2.2.2.1 a b ha hb ((of_decide_eq_true qa).trans (of_decide_eq_true qb).symm) eh
theorem ty_len (T : tp_p C M R y_isInterface y_ancestors y_own chn y_parent y_many y_home y_ruleKind y_ruleClasses y_ruleNames xform xname xlen y_isAbstract y_name y_length xop xcl xnu xsm xsl xca y_op y_first y_second) {m : Nat} (hm : m < M) : y_length m = nI (hq_t (y_length m)) ∧ hq_t (y_length m) ≤ 6 := by
  obtain ⟨_, ⟨l, l6, e1, e2⟩, _⟩ := T.2.2.2.1 m hm
  rw [e2, hq_e (by omega)]
  exact ⟨rfl, l6⟩
theorem yo_v (T : tp_p C M R y_isInterface y_ancestors y_own chn y_parent y_many y_home y_ruleKind y_ruleClasses y_ruleNames xform xname xlen y_isAbstract y_name y_length xop xcl xnu xsm xsl xca y_op y_first y_second) (hC : y_classes = nI C) (hM : y_methods = nI M) {post : Int32 → Prop} {c : Nat} {n : Int32} (hc : c < C) (hp : post (oI (fo_v M y_ancestors chn y_home y_name c n))) :
    wpY_finds post (y_classes, y_methods, y_rules, y_place, y_named, y_made, y_namedMethods, y_live, y_built, y_depth, y_steps, y_outs, y_ending, y_isInterface, y_isAbstract, y_parent, y_ancestors, y_own, y_many, y_home, y_name, y_length, y_op, y_first, y_second, y_ruleKind, y_ruleClasses, y_ruleNames, y_inlined, y_number, y_newName, y_family, y_vMethod, y_vLine, y_vHeld, y_put) (nI c) n := yf_v T.1 T.2.2.1 (ty_un T n) hc hC hM hp
theorem yx_1 {post : Int32 → SY → Prop} {J : Int32 → Prop} {i : Nat} (hi : i < 180) {v : Int32}
    (h0 : v = 0 → J (nI (i + 1))) (h1 : ¬ v = 0 → post v (y_classes, y_methods, y_rules, nI (8 * (i / 6) + i % 6), y_named, y_made, y_namedMethods, y_live, y_built, y_depth, y_steps, y_outs, y_ending, y_isInterface, y_isAbstract, y_parent, y_ancestors, y_own, y_many, y_home, y_name, y_length, y_op, y_first, y_second, y_ruleKind, y_ruleClasses, y_ruleNames, y_inlined, y_number, y_newName, y_family, y_vMethod, y_vLine, y_vHeld, y_put)) : wY_examine_138 post J (nI i) v y_classes y_methods y_rules y_place y_named y_made y_namedMethods y_live y_built y_depth y_steps y_outs y_ending y_isInterface y_isAbstract y_parent y_ancestors y_own y_many y_home y_name y_length y_op y_first y_second y_ruleKind y_ruleClasses y_ruleNames y_inlined y_number y_newName y_family y_vMethod y_vLine y_vHeld y_put := by
  unfold wY_examine_138
  refine br_c (fun z => nm_r (nI_1 i) (h0 z)) (fun z => ⟨by decide, by decide, ?_⟩)
  rw [nI_r6 (by omega), nI_d6 (by omega)]
  refine nm_r (e' := nI (8 * (i / 6) + i % 6)) ?_ (h1 z)
  show nI (i / 6) * nI 8 + nI (i % 6) = _
  rw [pk_mul, nI_add, Nat.mul_comm]
theorem yx_2 (T : tp_p C M R y_isInterface y_ancestors y_own chn y_parent y_many y_home y_ruleKind y_ruleClasses y_ruleNames xform xname xlen y_isAbstract y_name y_length xop xcl xnu xsm xsl xca y_op y_first y_second) (hC : y_classes = nI C) (hM : y_methods = nI M) {post : Int32 → SY → Prop} {J : Int32 → Prop} {i c n o : Nat} (hi : i < 180) (hc : c < C) (o23 : o = 2 ∨ o = 3)
    (es : y_second i = nI n)
    (h0 : fl_v C y_isInterface y_isAbstract (fo_v M y_ancestors chn y_home y_name) (nI o) (nI c) (nI n) = 0 → J (nI (i + 1))) (h1 : ¬ fl_v C y_isInterface y_isAbstract (fo_v M y_ancestors chn y_home y_name) (nI o) (nI c) (nI n) = 0 → post (fl_v C y_isInterface y_isAbstract (fo_v M y_ancestors chn y_home y_name) (nI o) (nI c) (nI n)) (y_classes, y_methods, y_rules, nI (8 * (i / 6) + i % 6), y_named, y_made, y_namedMethods, y_live, y_built, y_depth, y_steps, y_outs, y_ending, y_isInterface, y_isAbstract, y_parent, y_ancestors, y_own, y_many, y_home, y_name, y_length, y_op, y_first, y_second, y_ruleKind, y_ruleClasses, y_ruleNames, y_inlined, y_number, y_newName, y_family, y_vMethod, y_vLine, y_vHeld, y_put)) :
    wY_examine_102 post J (nI i) (nI o) (nI c) 0 y_classes y_methods y_rules y_place y_named y_made y_namedMethods y_live y_built y_depth y_steps y_outs y_ending y_isInterface y_isAbstract y_parent y_ancestors y_own y_many y_home y_name y_length y_op y_first y_second y_ruleKind y_ruleClasses y_ruleNames y_inlined y_number y_newName y_family y_vMethod y_vLine y_vHeld y_put := by
  have h30 := T.2.2.1.1
  have h10 := T.1.1
  have o23' : nI o = 2 ∨ nI o = 3 := by
    rcases o23 with z | z
    · subst z; exact Or.inl rfl
    · subst z; exact Or.inr rfl
  have hce : hq_t (nI c) = c := hq_e (by omega)
  have ncl : ¬ C ≤ hq_t (nI c) := by rw [hce]; omega
  unfold wY_examine_102
  refine ⟨vp_in_nI hi (by decide), ?_⟩
  rw [nI_c (by omega), es]
  refine yo_v T hC hM hc ?_
  cases e : fo_v M y_ancestors chn y_home y_name c (nI n) with
  | none =>
    rw [fl_n o23' ncl (by rw [hce]; exact e)] at h0 h1
    refine br_t (by decide) ?_
    unfold wY_examine_135
    exact yx_1 hi h0 h1
  | some t =>
    have tM := (fd_s T.1 hc e).1
    rw [fl_m o23' ncl (by rw [hce]; exact e)] at h0 h1
    refine br_f (nI_pos (by omega)) (br_c (fun z => ⟨vp_in_nI (by omega) (by decide), ?_⟩) (fun z => ?_))
    · rw [oI_s, nI_c (by omega)]
      refine br_c (fun a => ?_) (fun a => ?_)
      · rw [if_neg (fun q => q.2 a)] at h0 h1; exact yx_1 hi h0 h1
      · rw [if_pos ⟨z, a⟩] at h0 h1
        unfold wY_examine_135
        exact yx_1 hi h0 h1
    · rw [if_neg (fun q => z q.1)] at h0 h1
      exact yx_1 hi h0 h1
theorem fb_y {m k : Nat} (h6 : k < 6) : fb_p C M y_isInterface y_ancestors chn y_home y_isAbstract y_name y_length y_op y_first y_second (6 * m + k) = true ↔ k < hq_t (y_length m) ∧ ¬ fl_v C y_isInterface y_isAbstract (fo_v M y_ancestors chn y_home y_name) (y_op (6 * m + k)) (y_first (6 * m + k)) (y_second (6 * m + k)) = 0 := by
  have e1 : (6 * m + k) / 6 = m := by omega
  have e2 : (6 * m + k) % 6 = k := by omega
  unfold fb_p
  rw [e1, e2, bb_a, decide_eq_true_eq, decide_eq_true_eq]
theorem yx_v (T : tp_p C M R y_isInterface y_ancestors y_own chn y_parent y_many y_home y_ruleKind y_ruleClasses y_ruleNames xform xname xlen y_isAbstract y_name y_length xop xcl xnu xsm xsl xca y_op y_first y_second) (hC : y_classes = nI C) (hM : y_methods = nI M) {post : Int32 → SY → Prop} (h0 : ff_v C M y_isInterface y_ancestors chn y_home y_isAbstract y_name y_length y_op y_first y_second = none → post 0 (y_classes, y_methods, y_rules, y_place, y_named, y_made, y_namedMethods, y_live, y_built, y_depth, y_steps, y_outs, y_ending, y_isInterface, y_isAbstract, y_parent, y_ancestors, y_own, y_many, y_home, y_name, y_length, y_op, y_first, y_second, y_ruleKind, y_ruleClasses, y_ruleNames, y_inlined, y_number, y_newName, y_family, y_vMethod, y_vLine, y_vHeld, y_put))
    (h1 : ∀ k, ff_v C M y_isInterface y_ancestors chn y_home y_isAbstract y_name y_length y_op y_first y_second = some k → post (fl_v C y_isInterface y_isAbstract (fo_v M y_ancestors chn y_home y_name) (y_op k) (y_first k) (y_second k)) (y_classes, y_methods, y_rules, nI (8 * (k / 6) + k % 6), y_named, y_made, y_namedMethods, y_live, y_built, y_depth, y_steps, y_outs, y_ending, y_isInterface, y_isAbstract, y_parent, y_ancestors, y_own, y_many, y_home, y_name, y_length, y_op, y_first, y_second, y_ruleKind, y_ruleClasses, y_ruleNames, y_inlined, y_number, y_newName, y_family, y_vMethod, y_vLine, y_vHeld, y_put)) : wpY_examine post (y_classes, y_methods, y_rules, y_place, y_named, y_made, y_namedMethods, y_live, y_built, y_depth, y_steps, y_outs, y_ending, y_isInterface, y_isAbstract, y_parent, y_ancestors, y_own, y_many, y_home, y_name, y_length, y_op, y_first, y_second, y_ruleKind, y_ruleClasses, y_ruleNames, y_inlined, y_number, y_newName, y_family, y_vMethod, y_vLine, y_vHeld, y_put) := by
  have h30 := T.2.2.1.1
  have h10 := T.1.1
  have lo : ∀ q i f, i + q = 6 * M → q < f → (∀ j, j < i → ¬ fb_p C M y_isInterface y_ancestors chn y_home y_isAbstract y_name y_length y_op y_first y_second j = true) → wY_examine_2 post y_classes y_methods y_rules y_place y_named y_made y_namedMethods y_live y_built y_depth y_steps y_outs y_ending y_isInterface y_isAbstract y_parent y_ancestors y_own y_many y_home y_name y_length y_op y_first y_second y_ruleKind y_ruleClasses y_ruleNames y_inlined y_number y_newName y_family y_vMethod y_vLine y_vHeld y_put f (nI i) := by
    intro q
    induction q with
    | zero =>
      intro i f e hf no
      obtain ⟨f, rfl⟩ : ∃ q, f = q + 1 := ⟨f - 1, by omega⟩
      rw [wY_examine_2]
      refine br_t (by rw [hM, nI_m6]; exact nI_le (by omega) (by omega)) (h0 ?_)
      exact sc_fN (fun j hj => no j (by omega))
    | succ q ih =>
      intro i f e hf no
      obtain ⟨f, rfl⟩ : ∃ q, f = q + 1 := ⟨f - 1, by omega⟩
      obtain ⟨m, k, k6, rfl⟩ : ∃ m k, k < 6 ∧ i = 6 * m + k := ⟨i / 6, i % 6, by omega, by omega⟩
      have hm : m < M := by omega
      have e1 : (6 * m + k) / 6 = m := by omega
      have e2 : (6 * m + k) % 6 = k := by omega
      obtain ⟨l1, l6⟩ := ty_len T hm
      have nx : ¬ fb_p C M y_isInterface y_ancestors chn y_home y_isAbstract y_name y_length y_op y_first y_second (6 * m + k) = true → wY_examine_2 post y_classes y_methods y_rules y_place y_named y_made y_namedMethods y_live y_built y_depth y_steps y_outs y_ending y_isInterface y_isAbstract y_parent y_ancestors y_own y_many y_home y_name y_length y_op y_first y_second y_ruleKind y_ruleClasses y_ruleNames y_inlined y_number y_newName y_family y_vMethod y_vLine y_vHeld y_put f (nI (6 * m + k + 1)) := fun y => ih _ f (by omega) (by omega) (fun j hj => by
        rcases Nat.lt_or_ge j (6 * m + k) with z | z
        · exact no j z
        · have : j = 6 * m + k := by omega
          subst this; exact y)
      have hit : k < hq_t (y_length m) → ¬ fl_v C y_isInterface y_isAbstract (fo_v M y_ancestors chn y_home y_name) (y_op (6 * m + k)) (y_first (6 * m + k)) (y_second (6 * m + k)) = 0 →
          post (fl_v C y_isInterface y_isAbstract (fo_v M y_ancestors chn y_home y_name) (y_op (6 * m + k)) (y_first (6 * m + k)) (y_second (6 * m + k))) (y_classes, y_methods, y_rules, nI (8 * ((6 * m + k) / 6) + (6 * m + k) % 6), y_named, y_made, y_namedMethods, y_live, y_built, y_depth, y_steps, y_outs, y_ending, y_isInterface, y_isAbstract, y_parent, y_ancestors, y_own, y_many, y_home, y_name, y_length, y_op, y_first, y_second, y_ruleKind, y_ruleClasses, y_ruleNames, y_inlined, y_number, y_newName, y_family, y_vMethod, y_vLine, y_vHeld, y_put) := fun a b =>
        h1 _ (sc_fI (by omega) ((fb_y k6).mpr ⟨a, b⟩) no)
      rw [wY_examine_2]
      refine br_f (by rw [hM, nI_m6]; exact nI_ge (by omega) (by omega)) ⟨vp_in_nI (by omega) (by decide), ?_⟩
      rw [nI_c (by omega), nI_r6 (by omega), nI_d6 (by omega), e1, e2, nI_c (by omega), l1]
      refine nm_e ⟨vp_in_nI (by omega) (by decide), nm_e ⟨by decide, by decide, vp_in_nI (by omega) (by decide), pk_le (hq_t (y_length m)) k (fun z => nm_r (nI_1 _) (nx (fun q => by have := ((fb_y k6).mp q).1; omega))) (fun kl => ?_)⟩⟩
      obtain ⟨o, o6, _, g2, g3, _, g5, _⟩ := T.2.2.2.2.2.1 m k hm kl
      have nx0 : fl_v C y_isInterface y_isAbstract (fo_v M y_ancestors chn y_home y_name) (y_op (6 * m + k)) (y_first (6 * m + k)) (y_second (6 * m + k)) = 0 → wY_examine_2 post y_classes y_methods y_rules y_place y_named y_made y_namedMethods y_live y_built y_depth y_steps y_outs y_ending y_isInterface y_isAbstract y_parent y_ancestors y_own y_many y_home y_name y_length y_op y_first y_second y_ruleKind y_ruleClasses y_ruleNames y_inlined y_number y_newName y_family y_vMethod y_vLine y_vHeld y_put f (nI (6 * m + k + 1)) := fun z => nx (fun q => ((fb_y k6).mp q).2 z)
      have hit := hit kl
      rw [g2] at nx0 hit ⊢
      refine pk_eq o 0 (fun z => ?_) (fun z0 => pk_eq o 5 (fun z => ?_) (fun z5 => ?_))
      · subst z; exact nm_r (nI_1 _) (nx0 (fl_0 (Or.inl rfl)))
      · subst z; exact nm_r (nI_1 _) (nx0 (fl_0 (Or.inr rfl)))
      · obtain ⟨c, c10, _, f2⟩ := g3 (by omega)
        have no5 : ¬ (nI o = 0 ∨ nI o = 5) := by
          rintro (z | z)
          · have := (nI_eq (a := o) (b := 0) (by omega) (by omega)).mp z; omega
          · have := (nI_eq (a := o) (b := 5) (by omega) (by omega)).mp z; omega
        rw [f2] at nx0 hit ⊢
        have hce : hq_t (nI c) = c := hq_e (by omega)
        refine pk_lt c C (fun cl => ?_) (fun cl => ?_) rfl hC
        · have ncl : ¬ C ≤ hq_t (nI c) := by rw [hce]; omega
          refine pk_eq o 1 (fun z => ⟨vp_in_nI (by omega) (by decide), ?_⟩) (fun z1 => ?_)
          · subst z
            rw [nI_c (by omega)]
            rw [show nI 1 = (1 : Int32) from rfl, fl_2 ncl, hce] at nx0 hit
            refine br_c (fun a => ?_) (fun a => ?_)
            · rw [if_pos a] at nx0 hit
              unfold wY_examine_92
              exact br_f (by decide) (br_f (by decide) (yx_1 (by omega) nx0 hit))
            · rw [if_neg a] at nx0 hit
              exact yx_1 (by omega) nx0 hit
          · unfold wY_examine_92
            refine pk_eq o 2 (fun z => ?_) (fun z2 => pk_eq o 3 (fun z => ?_) (fun z3 => ?_))
            · obtain ⟨n, n10, _, h2⟩ := g5 (Or.inl z)
              rw [h2] at nx0 hit
              exact yx_2 T hC hM (by omega) cl (Or.inl z) h2 nx0 hit
            · obtain ⟨n, n10, _, h2⟩ := g5 (Or.inr z)
              rw [h2] at nx0 hit
              exact yx_2 T hC hM (by omega) cl (Or.inr z) h2 nx0 hit
            · have : o = 4 := by omega
              subst this
              rw [show nI 4 = (4 : Int32) from rfl, fl_4 ncl] at nx0 hit
              exact yx_1 (by omega) nx0 hit
        · rw [fl_1 no5 (by rw [hce]; exact cl)] at nx0 hit
          exact yx_1 (by omega) nx0 hit
  unfold wpY_examine
  exact ⟨6 * M + 1, lo (6 * M) 0 _ (by omega) (by omega) (fun j hj => by omega)⟩
end
end
section
/-! ===== X's marking ===== -/
section
variable {x_classCount x_methodCount x_ruleCount x_isBuilt x_faultPlace x_namedClasses x_madeClasses x_namedMethods x_liveMethods x_depth x_stepCount x_outCount x_traceCount : Int32} {x_isInterfaceClass x_chainOf x_interfacesOf x_ancestorsOf x_homeOf x_formOf x_nameOf x_lengthOf x_opOf x_classOf x_numberOf x_sourceMethod x_sourceLine x_callLine x_ruleKind x_ruleClasses x_ruleNames x_newNumber x_familyOf x_sightOf x_frameRow x_frameLine x_frameHeld x_outInts x_traceMethod x_traceLine : Nat → Int32} {y_parent y_many y_isAbstract y_name y_length y_op y_first y_second : Nat → Int32} {C M R : Nat} {E : Nat → (Nat → Nat → Prop) → Prop} {a b c d : Int32}
theorem xq_n {post : SX → Prop} {m h : Nat} (hm : m < 30) (eh : x_homeOf m = nI h) (h10 : h < 10)
    (hp : post (x_classCount, x_methodCount, x_ruleCount, x_isBuilt, x_faultPlace, x_namedClasses ||| x_ancestorsOf h, x_madeClasses, x_namedMethods ||| ((1 : Int32) <<< (nI m &&& 31)), x_liveMethods, x_depth, x_stepCount, x_outCount, x_traceCount, x_isInterfaceClass, x_chainOf, x_interfacesOf, x_ancestorsOf, x_homeOf, x_formOf, x_nameOf, x_lengthOf, x_opOf, x_classOf, x_numberOf, x_sourceMethod, x_sourceLine, x_callLine, x_ruleKind, x_ruleClasses, x_ruleNames, x_newNumber, x_familyOf, x_sightOf, x_frameRow, x_frameLine, x_frameHeld, x_outInts, x_traceMethod, x_traceLine)) : wpX_nameMethod post (x_classCount, x_methodCount, x_ruleCount, x_isBuilt, x_faultPlace, x_namedClasses, x_madeClasses, x_namedMethods, x_liveMethods, x_depth, x_stepCount, x_outCount, x_traceCount, x_isInterfaceClass, x_chainOf, x_interfacesOf, x_ancestorsOf, x_homeOf, x_formOf, x_nameOf, x_lengthOf, x_opOf, x_classOf, x_numberOf, x_sourceMethod, x_sourceLine, x_callLine, x_ruleKind, x_ruleClasses, x_ruleNames, x_newNumber, x_familyOf, x_sightOf, x_frameRow, x_frameLine, x_frameHeld, x_outInts, x_traceMethod, x_traceLine) (nI m) := by
  unfold wpX_nameMethod
  dsimp only
  rw [nI_c (by omega), eh, nI_c (by omega)]
  exact br_f (oI_n (by omega)) (nm_e ⟨vp_in_nI hm (by decide), vp_in_nI h10 (by decide), nm_e hp⟩)
theorem xq_i (T : tp_p C M R x_isInterfaceClass x_ancestorsOf x_interfacesOf x_chainOf y_parent y_many x_homeOf x_ruleKind x_ruleClasses x_ruleNames x_formOf x_nameOf x_lengthOf y_isAbstract y_name y_length x_opOf x_classOf x_numberOf x_sourceMethod x_sourceLine x_callLine y_op y_first y_second) {post : SX → Prop} {m : Nat} (hm : m < M) (h : mi_ok C M R x_ancestorsOf x_homeOf y_name x_ruleKind x_ruleClasses x_ruleNames (fun m => y_isAbstract m = 0) E a b c d) (J : ∀ S, cl_ok C M R x_ancestorsOf x_homeOf y_name x_ruleKind x_ruleClasses x_ruleNames (fun m => y_isAbstract m = 0) E S → mk_le a b c d S → S 2 m)
    (K : ∀ a' c', mi_ok C M R x_ancestorsOf x_homeOf y_name x_ruleKind x_ruleClasses x_ruleNames (fun m => y_isAbstract m = 0) E a' b c' d → mk_gr a b c d a' b c' d → bt c' m = true → post (x_classCount, x_methodCount, x_ruleCount, x_isBuilt, x_faultPlace, a', b, c', d, x_depth, x_stepCount, x_outCount, x_traceCount, x_isInterfaceClass, x_chainOf, x_interfacesOf, x_ancestorsOf, x_homeOf, x_formOf, x_nameOf, x_lengthOf, x_opOf, x_classOf, x_numberOf, x_sourceMethod, x_sourceLine, x_callLine, x_ruleKind, x_ruleClasses, x_ruleNames, x_newNumber, x_familyOf, x_sightOf, x_frameRow, x_frameLine, x_frameHeld, x_outInts, x_traceMethod, x_traceLine)) : wpX_nameMethod post (x_classCount, x_methodCount, x_ruleCount, x_isBuilt, x_faultPlace, a, b, c, d, x_depth, x_stepCount, x_outCount, x_traceCount, x_isInterfaceClass, x_chainOf, x_interfacesOf, x_ancestorsOf, x_homeOf, x_formOf, x_nameOf, x_lengthOf, x_opOf, x_classOf, x_numberOf, x_sourceMethod, x_sourceLine, x_callLine, x_ruleKind, x_ruleClasses, x_ruleNames, x_newNumber, x_familyOf, x_sightOf, x_frameRow, x_frameLine, x_frameHeld, x_outInts, x_traceMethod, x_traceLine) (nI m) := by
  have h30 := T.2.2.1.1
  have h10 := T.1.1
  obtain ⟨e1, e2⟩ := mh_h T.2.2.1 h10 hm
  obtain ⟨k1, k2, k3⟩ := mi_Q T.1 T.2.2.1 h hm J
  exact xq_n (by omega) e1 (by omega) (K _ _ k1 k2 k3)
theorem xr_i (T : tp_p C M R x_isInterfaceClass x_ancestorsOf x_interfacesOf x_chainOf y_parent y_many x_homeOf x_ruleKind x_ruleClasses x_ruleNames x_formOf x_nameOf x_lengthOf y_isAbstract y_name y_length x_opOf x_classOf x_numberOf x_sourceMethod x_sourceLine x_callLine y_op y_first y_second) {post : SX → Prop} {m : Nat} (hm : m < M) (h : mi_ok C M R x_ancestorsOf x_homeOf y_name x_ruleKind x_ruleClasses x_ruleNames (fun m => y_isAbstract m = 0) E a b c d) (J : ∀ S, cl_ok C M R x_ancestorsOf x_homeOf y_name x_ruleKind x_ruleClasses x_ruleNames (fun m => y_isAbstract m = 0) E S → mk_le a b c d S → S 2 m ∧ (y_isAbstract m = 0 → S 3 m))
    (K : ∀ a' c' d', mi_ok C M R x_ancestorsOf x_homeOf y_name x_ruleKind x_ruleClasses x_ruleNames (fun m => y_isAbstract m = 0) E a' b c' d' → mk_gr a b c d a' b c' d' → bt c' m = true → (y_isAbstract m = 0 → bt d' m = true) → post (x_classCount, x_methodCount, x_ruleCount, x_isBuilt, x_faultPlace, a', b, c', d', x_depth, x_stepCount, x_outCount, x_traceCount, x_isInterfaceClass, x_chainOf, x_interfacesOf, x_ancestorsOf, x_homeOf, x_formOf, x_nameOf, x_lengthOf, x_opOf, x_classOf, x_numberOf, x_sourceMethod, x_sourceLine, x_callLine, x_ruleKind, x_ruleClasses, x_ruleNames, x_newNumber, x_familyOf, x_sightOf, x_frameRow, x_frameLine, x_frameHeld, x_outInts, x_traceMethod, x_traceLine)) :
    wpX_reachMethod post (x_classCount, x_methodCount, x_ruleCount, x_isBuilt, x_faultPlace, a, b, c, d, x_depth, x_stepCount, x_outCount, x_traceCount, x_isInterfaceClass, x_chainOf, x_interfacesOf, x_ancestorsOf, x_homeOf, x_formOf, x_nameOf, x_lengthOf, x_opOf, x_classOf, x_numberOf, x_sourceMethod, x_sourceLine, x_callLine, x_ruleKind, x_ruleClasses, x_ruleNames, x_newNumber, x_familyOf, x_sightOf, x_frameRow, x_frameLine, x_frameHeld, x_outInts, x_traceMethod, x_traceLine) (nI m) := by
  have h30 := T.2.2.1.1
  unfold wpX_reachMethod
  dsimp only
  refine xq_i T hm h (fun S hS g => (J S hS g).1) (fun a' c' m1 m2 m3 => ?_)
  dsimp only
  refine br_f (oI_n (by omega)) ⟨vp_in_nI (by omega) (by decide), ?_⟩
  rw [nI_c (by omega)]
  rcases (T.2.2.2.1 m hm).2.2.1 with ⟨a1, a2⟩ | ⟨a1, a2⟩
  · obtain ⟨n1, n2, n3⟩ := mi_L h30 m1 hm m3 (fun S hS g => (J S hS (h.1 S hS)).2 a1)
    exact br_t a2 (nm_e (K _ _ _ n1 (mk_grt m2 n2) m3 (fun _ => n3)))
  · exact br_f (by rw [a2]; decide) (K _ _ _ m1 m2 m3 (fun z => absurd z a1))
theorem xu_b (T : tp_p C M R x_isInterfaceClass x_ancestorsOf x_interfacesOf x_chainOf y_parent y_many x_homeOf x_ruleKind x_ruleClasses x_ruleNames x_formOf x_nameOf x_lengthOf y_isAbstract y_name y_length x_opOf x_classOf x_numberOf x_sourceMethod x_sourceLine x_callLine y_op y_first y_second) {A B : Prop} {m r : Nat} (hm : m < M) (hr : r < R) (t : bt (x_ruleClasses r) (hq_t (x_homeOf m)) = true → bt (x_ruleNames r) (hq_t (y_name m)) = true → B)
    (f : ¬ (bt (x_ruleClasses r) (hq_t (x_homeOf m)) = true ∧ bt (x_ruleNames r) (hq_t (y_name m)) = true) → A) : wpX_isUnderRule (fun z => (z = 0 → A) ∧ (¬ z = 0 → B)) (x_classCount, x_methodCount, x_ruleCount, x_isBuilt, x_faultPlace, x_namedClasses, x_madeClasses, x_namedMethods, x_liveMethods, x_depth, x_stepCount, x_outCount, x_traceCount, x_isInterfaceClass, x_chainOf, x_interfacesOf, x_ancestorsOf, x_homeOf, x_formOf, x_nameOf, x_lengthOf, x_opOf, x_classOf, x_numberOf, x_sourceMethod, x_sourceLine, x_callLine, x_ruleKind, x_ruleClasses, x_ruleNames, x_newNumber, x_familyOf, x_sightOf, x_frameRow, x_frameLine, x_frameHeld, x_outInts, x_traceMethod, x_traceLine) (nI m) (nI r) := by
  have h30 := T.2.2.1.1
  have h10 := T.1.1
  have h4 := T.2.2.2.2.2.2.1
  obtain ⟨e1, e2⟩ := mh_h T.2.2.1 h10 hm
  obtain ⟨⟨n, n10, f1, f2⟩, _⟩ := T.2.2.2.1 m hm
  rw [f2, hq_e (by omega)] at t f
  unfold wpX_isUnderRule
  dsimp only
  rw [nI_c (by omega), nI_c (by omega), e1, f1]
  refine ⟨vp_in_nI (by omega) (by decide), vp_in_nI (by omega) (by decide), xh_b (by omega) (fun z => ⟨vp_in_nI (by omega) (by decide), vp_in_nI (by omega) (by decide), ?_⟩) (fun z => br_0 (f (fun q => z q.1)))⟩
  exact xh_b (by omega) (fun y => br_1 (t z y)) (fun y => br_0 (f (fun q => y q.2)))
/-- the roots of a rule -/
def rt_p (C M : Nat) (hom nam rc rn : Nat → Int32) (fil : Nat → Prop) (r : Nat) (a c d : Int32) : Prop :=
  (∀ k, k < C → bt (rc r) k = true → bt a k = true) ∧
  ∀ m, m < M → bt (rc r) (hq_t (hom m)) = true → bt (rn r) (hq_t (nam m)) = true → bt c m = true ∧ (fil m → bt d m = true)
theorem rt_g {hom nam rc rn : Nat → Int32} {fil : Nat → Prop} {r : Nat} {a' b' c' d' : Int32} (h : rt_p C M hom nam rc rn fil r a c d) (g : mk_gr a b c d a' b' c' d') : rt_p C M hom nam rc rn fil r a' c' d' :=
  ⟨fun k hk z => g.1 k (h.1 k hk z), fun m hm x y => ⟨g.2.2.1 m (h.2 m hm x y).1, fun z => g.2.2.2 m ((h.2 m hm x y).2 z)⟩⟩
theorem xr_m (T : tp_p C M R x_isInterfaceClass x_ancestorsOf x_interfacesOf x_chainOf y_parent y_many x_homeOf x_ruleKind x_ruleClasses x_ruleNames x_formOf x_nameOf x_lengthOf y_isAbstract y_name y_length x_opOf x_classOf x_numberOf x_sourceMethod x_sourceLine x_callLine y_op y_first y_second) (hM : x_methodCount = nI M) {post : SX → Prop} {r : Nat} (hr : r < R) (h0 : x_ruleKind r = 0) {a0 b0 c0 d0 : Int32} (h1 : ∀ k, k < C → bt (x_ruleClasses r) k = true → bt a0 k = true)
    (K : ∀ a b c d, mi_ok C M R x_ancestorsOf x_homeOf y_name x_ruleKind x_ruleClasses x_ruleNames (fun m => y_isAbstract m = 0) E a b c d → mk_gr a0 b0 c0 d0 a b c d → rt_p C M x_homeOf y_name x_ruleClasses x_ruleNames (fun m => y_isAbstract m = 0) r a c d → post (x_classCount, x_methodCount, x_ruleCount, x_isBuilt, x_faultPlace, a, b, c, d, x_depth, x_stepCount, x_outCount, x_traceCount, x_isInterfaceClass, x_chainOf, x_interfacesOf, x_ancestorsOf, x_homeOf, x_formOf, x_nameOf, x_lengthOf, x_opOf, x_classOf, x_numberOf, x_sourceMethod, x_sourceLine, x_callLine, x_ruleKind, x_ruleClasses, x_ruleNames, x_newNumber, x_familyOf, x_sightOf, x_frameRow, x_frameLine, x_frameHeld, x_outInts, x_traceMethod, x_traceLine)) :
    ∀ q i f a b c d, i + q = M → q < f → mi_ok C M R x_ancestorsOf x_homeOf y_name x_ruleKind x_ruleClasses x_ruleNames (fun m => y_isAbstract m = 0) E a b c d → mk_gr a0 b0 c0 d0 a b c d →
      (∀ m, m < i → bt (x_ruleClasses r) (hq_t (x_homeOf m)) = true → bt (x_ruleNames r) (hq_t (y_name m)) = true → bt c m = true ∧ (y_isAbstract m = 0 → bt d m = true)) →
      wX_markRootsOf_46 post (nI r) f (nI i) x_classCount x_methodCount x_ruleCount x_isBuilt x_faultPlace a b c d x_depth x_stepCount x_outCount x_traceCount x_isInterfaceClass x_chainOf x_interfacesOf x_ancestorsOf x_homeOf x_formOf x_nameOf x_lengthOf x_opOf x_classOf x_numberOf x_sourceMethod x_sourceLine x_callLine x_ruleKind x_ruleClasses x_ruleNames x_newNumber x_familyOf x_sightOf x_frameRow x_frameLine x_frameHeld x_outInts x_traceMethod x_traceLine := by
  have h30 := T.2.2.1.1
  intro q
  induction q with
  | zero =>
    intro i f a b c d e hf h g z
    obtain ⟨f, rfl⟩ : ∃ q, f = q + 1 := ⟨f - 1, by omega⟩
    have e : i = M := by omega
    subst e
    rw [wX_markRootsOf_46]
    exact br_t (by rw [hM]; exact nI_le (Nat.le_refl _) (by omega)) (K a b c d h g ⟨fun k hk y => g.1 k (h1 k hk y), z⟩)
  | succ q ih =>
    intro i f a b c d e hf h g z
    obtain ⟨f, rfl⟩ : ∃ q, f = q + 1 := ⟨f - 1, by omega⟩
    rw [wX_markRootsOf_46]
    refine br_f (by rw [hM]; exact nI_ge (by omega) (by omega)) (xu_b T (by omega) hr (fun y1 y2 => ?_) (fun y => ?_))
    · refine xr_i T (by omega) h (fun S hS _ => (hS.1 r hr h0).2 i (by omega) y1 y2) (fun a' c' d' m1 m2 m3 m4 => ?_)
      refine nm_r (nI_1 i) (ih (i + 1) f a' b c' d' (by omega) (by omega) m1 (mk_grt g m2) (fun m hm x y => ?_))
      rcases Nat.lt_or_ge m i with w | w
      · exact ⟨m2.2.2.1 m (z m w x y).1, fun v => m2.2.2.2 m ((z m w x y).2 v)⟩
      · have : m = i := by omega
        subst this; exact ⟨m3, m4⟩
    · refine nm_r (nI_1 i) (ih (i + 1) f a b c d (by omega) (by omega) h g (fun m hm x w => ?_))
      rcases Nat.lt_or_ge m i with v | v
      · exact z m v x w
      · have : m = i := by omega
        subst this; exact absurd ⟨x, w⟩ y
theorem xr_c (T : tp_p C M R x_isInterfaceClass x_ancestorsOf x_interfacesOf x_chainOf y_parent y_many x_homeOf x_ruleKind x_ruleClasses x_ruleNames x_formOf x_nameOf x_lengthOf y_isAbstract y_name y_length x_opOf x_classOf x_numberOf x_sourceMethod x_sourceLine x_callLine y_op y_first y_second) (hC : x_classCount = nI C) (hM : x_methodCount = nI M) {post : SX → Prop} {r : Nat} (hr : r < R) (h0 : x_ruleKind r = 0) {a0 : Int32}
    (K : ∀ a' b' c' d', mi_ok C M R x_ancestorsOf x_homeOf y_name x_ruleKind x_ruleClasses x_ruleNames (fun m => y_isAbstract m = 0) E a' b' c' d' → mk_gr a0 b c d a' b' c' d' → rt_p C M x_homeOf y_name x_ruleClasses x_ruleNames (fun m => y_isAbstract m = 0) r a' c' d' → post (x_classCount, x_methodCount, x_ruleCount, x_isBuilt, x_faultPlace, a', b', c', d', x_depth, x_stepCount, x_outCount, x_traceCount, x_isInterfaceClass, x_chainOf, x_interfacesOf, x_ancestorsOf, x_homeOf, x_formOf, x_nameOf, x_lengthOf, x_opOf, x_classOf, x_numberOf, x_sourceMethod, x_sourceLine, x_callLine, x_ruleKind, x_ruleClasses, x_ruleNames, x_newNumber, x_familyOf, x_sightOf, x_frameRow, x_frameLine, x_frameHeld, x_outInts, x_traceMethod, x_traceLine)) :
    ∀ q i f a, i + q = C → q < f → mi_ok C M R x_ancestorsOf x_homeOf y_name x_ruleKind x_ruleClasses x_ruleNames (fun m => y_isAbstract m = 0) E a b c d → mk_gr a0 b c d a b c d → (∀ k, k < i → bt (x_ruleClasses r) k = true → bt a k = true) →
      wX_markRootsOf_2 post (nI r) x_classCount x_methodCount x_ruleCount x_isBuilt x_faultPlace b c d x_depth x_stepCount x_outCount x_traceCount x_isInterfaceClass x_chainOf x_interfacesOf x_ancestorsOf x_homeOf x_formOf x_nameOf x_lengthOf x_opOf x_classOf x_numberOf x_sourceMethod x_sourceLine x_callLine x_ruleKind x_ruleClasses x_ruleNames x_newNumber x_familyOf x_sightOf x_frameRow x_frameLine x_frameHeld x_outInts x_traceMethod x_traceLine f (nI i) a := by
  have h10 := T.1.1
  have h4 := T.2.2.2.2.2.2.1
  intro q
  induction q with
  | zero =>
    intro i f a e hf h g z
    obtain ⟨f, rfl⟩ : ∃ q, f = q + 1 := ⟨f - 1, by omega⟩
    have e : i = C := by omega
    subst e
    rw [wX_markRootsOf_2]
    refine br_t (by rw [hC]; exact nI_le (Nat.le_refl _) (by omega)) ⟨M + 1, ?_⟩
    exact xr_m T hM hr h0 z (fun a' b' c' d' m1 m2 m3 => K a' b' c' d' m1 (mk_grt g m2) m3) M 0 (M + 1) a b c d (by omega) (by omega) h (mk_gr0 a b c d) (fun m hm => by omega)
  | succ q ih =>
    intro i f a e hf h g z
    obtain ⟨f, rfl⟩ : ∃ q, f = q + 1 := ⟨f - 1, by omega⟩
    rw [wX_markRootsOf_2]
    refine br_f (by rw [hC]; exact nI_ge (by omega) (by omega)) ⟨vp_in_nI (by omega) (by decide), ?_⟩
    rw [nI_c (show r < 10000 by omega), nI_c (show i < 10000 by omega)]
    refine xh_b (by omega) (fun y => ⟨vp_in_nI (by omega) (by decide), ?_⟩) (fun y => ?_)
    · obtain ⟨m1, m2, m3⟩ := mi_N T.1 h (k := i) (by omega) (fun S hS _ => (hS.1 r hr h0).1 i (by omega) y)
      refine nm_e (nm_r (nI_1 i) (ih (i + 1) f _ (by omega) (by omega) m1 (mk_grt g m2) (fun k hk w => ?_)))
      rcases Nat.lt_or_ge k i with v | v
      · exact m2.1 k (z k v w)
      · have : k = i := by omega
        subst this; exact m3
    · refine nm_r (nI_1 i) (ih (i + 1) f a (by omega) (by omega) h g (fun k hk w => ?_))
      rcases Nat.lt_or_ge k i with v | v
      · exact z k v w
      · have : k = i := by omega
        subst this; exact absurd w y
theorem xr_v (T : tp_p C M R x_isInterfaceClass x_ancestorsOf x_interfacesOf x_chainOf y_parent y_many x_homeOf x_ruleKind x_ruleClasses x_ruleNames x_formOf x_nameOf x_lengthOf y_isAbstract y_name y_length x_opOf x_classOf x_numberOf x_sourceMethod x_sourceLine x_callLine y_op y_first y_second) (hC : x_classCount = nI C) (hM : x_methodCount = nI M) {post : SX → Prop} {r : Nat} (hr : r < R) (h0 : x_ruleKind r = 0) (h : mi_ok C M R x_ancestorsOf x_homeOf y_name x_ruleKind x_ruleClasses x_ruleNames (fun m => y_isAbstract m = 0) E a b c d)
    (K : ∀ a' b' c' d', mi_ok C M R x_ancestorsOf x_homeOf y_name x_ruleKind x_ruleClasses x_ruleNames (fun m => y_isAbstract m = 0) E a' b' c' d' → mk_gr a b c d a' b' c' d' → rt_p C M x_homeOf y_name x_ruleClasses x_ruleNames (fun m => y_isAbstract m = 0) r a' c' d' → post (x_classCount, x_methodCount, x_ruleCount, x_isBuilt, x_faultPlace, a', b', c', d', x_depth, x_stepCount, x_outCount, x_traceCount, x_isInterfaceClass, x_chainOf, x_interfacesOf, x_ancestorsOf, x_homeOf, x_formOf, x_nameOf, x_lengthOf, x_opOf, x_classOf, x_numberOf, x_sourceMethod, x_sourceLine, x_callLine, x_ruleKind, x_ruleClasses, x_ruleNames, x_newNumber, x_familyOf, x_sightOf, x_frameRow, x_frameLine, x_frameHeld, x_outInts, x_traceMethod, x_traceLine)) : wpX_markRootsOf post (x_classCount, x_methodCount, x_ruleCount, x_isBuilt, x_faultPlace, a, b, c, d, x_depth, x_stepCount, x_outCount, x_traceCount, x_isInterfaceClass, x_chainOf, x_interfacesOf, x_ancestorsOf, x_homeOf, x_formOf, x_nameOf, x_lengthOf, x_opOf, x_classOf, x_numberOf, x_sourceMethod, x_sourceLine, x_callLine, x_ruleKind, x_ruleClasses, x_ruleNames, x_newNumber, x_familyOf, x_sightOf, x_frameRow, x_frameLine, x_frameHeld, x_outInts, x_traceMethod, x_traceLine) (nI r) := by
  unfold wpX_markRootsOf
  exact ⟨C + 1, xr_c T hC hM hr h0 K C 0 (C + 1) a (by omega) (by omega) h (mk_gr0 a b c d) (fun k hk => by omega)⟩
theorem xr_l (T : tp_p C M R x_isInterfaceClass x_ancestorsOf x_interfacesOf x_chainOf y_parent y_many x_homeOf x_ruleKind x_ruleClasses x_ruleNames x_formOf x_nameOf x_lengthOf y_isAbstract y_name y_length x_opOf x_classOf x_numberOf x_sourceMethod x_sourceLine x_callLine y_op y_first y_second) (hC : x_classCount = nI C) (hM : x_methodCount = nI M) (hR : x_ruleCount = nI R) {post : SX → Prop}
    (K : ∀ a b c d, mi_ok C M R x_ancestorsOf x_homeOf y_name x_ruleKind x_ruleClasses x_ruleNames (fun m => y_isAbstract m = 0) E a b c d → (∀ r, r < R → x_ruleKind r = 0 → rt_p C M x_homeOf y_name x_ruleClasses x_ruleNames (fun m => y_isAbstract m = 0) r a c d) → post (x_classCount, x_methodCount, x_ruleCount, x_isBuilt, x_faultPlace, a, b, c, d, x_depth, x_stepCount, x_outCount, x_traceCount, x_isInterfaceClass, x_chainOf, x_interfacesOf, x_ancestorsOf, x_homeOf, x_formOf, x_nameOf, x_lengthOf, x_opOf, x_classOf, x_numberOf, x_sourceMethod, x_sourceLine, x_callLine, x_ruleKind, x_ruleClasses, x_ruleNames, x_newNumber, x_familyOf, x_sightOf, x_frameRow, x_frameLine, x_frameHeld, x_outInts, x_traceMethod, x_traceLine)) :
    ∀ q i f a b c d, i + q = R → q < f → mi_ok C M R x_ancestorsOf x_homeOf y_name x_ruleKind x_ruleClasses x_ruleNames (fun m => y_isAbstract m = 0) E a b c d → (∀ r, r < i → x_ruleKind r = 0 → rt_p C M x_homeOf y_name x_ruleClasses x_ruleNames (fun m => y_isAbstract m = 0) r a c d) → wX_markRoots_2 post f (nI i) x_classCount x_methodCount x_ruleCount x_isBuilt x_faultPlace a b c d x_depth x_stepCount x_outCount x_traceCount x_isInterfaceClass x_chainOf x_interfacesOf x_ancestorsOf x_homeOf x_formOf x_nameOf x_lengthOf x_opOf x_classOf x_numberOf x_sourceMethod x_sourceLine x_callLine x_ruleKind x_ruleClasses x_ruleNames x_newNumber x_familyOf x_sightOf x_frameRow x_frameLine x_frameHeld x_outInts x_traceMethod x_traceLine := by
  have h4 := T.2.2.2.2.2.2.1
  intro q
  induction q with
  | zero =>
    intro i f a b c d e hf h z
    obtain ⟨f, rfl⟩ : ∃ q, f = q + 1 := ⟨f - 1, by omega⟩
    have e : i = R := by omega
    subst e
    rw [wX_markRoots_2]
    exact br_t (by rw [hR]; exact nI_le (Nat.le_refl _) (by omega)) (K a b c d h z)
  | succ q ih =>
    intro i f a b c d e hf h z
    obtain ⟨f, rfl⟩ : ∃ q, f = q + 1 := ⟨f - 1, by omega⟩
    rw [wX_markRoots_2]
    refine br_f (by rw [hR]; exact nI_ge (by omega) (by omega)) ⟨vp_in_nI (by omega) (by decide), ?_⟩
    rw [nI_c (by omega)]
    refine br_c (fun y => ?_) (fun y => ?_)
    · refine xr_v T hC hM (by omega) y h (fun a' b' c' d' m1 m2 m3 => ?_)
      refine nm_r (nI_1 i) (ih (i + 1) f a' b' c' d' (by omega) (by omega) m1 (fun r hr w => ?_))
      rcases Nat.lt_or_ge r i with v | v
      · exact rt_g (z r v w) m2
      · have : r = i := by omega
        subst this; exact m3
    · refine nm_r (nI_1 i) (ih (i + 1) f a b c d (by omega) (by omega) h (fun r hr w => ?_))
      rcases Nat.lt_or_ge r i with v | v
      · exact z r v w
      · have : r = i := by omega
        subst this; exact absurd w y
end
end
section
/-- what a cell of X asks of closed sets -/
def ex_p (C : Nat) (fil : Nat → Prop) (anc : Nat → Int32) (F : Nat → Int32 → Option Nat) (o c n : Int32) (S : Nat → Nat → Prop) : Prop :=
  ¬ c = -1 → S 0 (hq_t c) ∧ (o = 1 → S 1 (hq_t c)) ∧ (o = 3 → ∀ f, F (hq_t c) n = some f → S 2 f ∧ (fil f → S 3 f)) ∧
    (o = 2 → (∀ f, F (hq_t c) n = some f → S 2 f) ∧ ∀ e, e < C → S 1 e → bt (anc e) (hq_t c) = true → ∀ g, F e n = some g → S 2 g ∧ (fil g → S 3 g))
def ew_p (C : Nat) (fil : Nat → Prop) (anc : Nat → Int32) (F : Nat → Int32 → Option Nat) (xlen xop xcl xnu : Nat → Int32) (w m : Nat) (S : Nat → Nat → Prop) : Prop :=
  ∀ k, k < hq_t (xlen (30 * w + m)) → ex_p C fil anc F (xop (24 * (30 * w + m) + k)) (xcl (24 * (30 * w + m) + k)) (xnu (24 * (30 * w + m) + k)) S
section
variable {x_classCount x_methodCount x_ruleCount x_isBuilt x_faultPlace x_namedClasses x_madeClasses x_namedMethods x_liveMethods x_depth x_stepCount x_outCount x_traceCount : Int32} {x_isInterfaceClass x_chainOf x_interfacesOf x_ancestorsOf x_homeOf x_formOf x_nameOf x_lengthOf x_opOf x_classOf x_numberOf x_sourceMethod x_sourceLine x_callLine x_ruleKind x_ruleClasses x_ruleNames x_newNumber x_familyOf x_sightOf x_frameRow x_frameLine x_frameHeld x_outInts x_traceMethod x_traceLine : Nat → Int32} {y_parent y_many y_isAbstract y_name y_length y_op y_first y_second : Nat → Int32} {C M R : Nat} {E : Nat → (Nat → Nat → Prop) → Prop} {a b c d : Int32}
theorem xr_o (T : tp_p C M R x_isInterfaceClass x_ancestorsOf x_interfacesOf x_chainOf y_parent y_many x_homeOf x_ruleKind x_ruleClasses x_ruleNames x_formOf x_nameOf x_lengthOf y_isAbstract y_name y_length x_opOf x_classOf x_numberOf x_sourceMethod x_sourceLine x_callLine y_op y_first y_second) {post : SX → Prop} {o : Option Nat} (hm : ∀ m, o = some m → m < M) (h : mi_ok C M R x_ancestorsOf x_homeOf y_name x_ruleKind x_ruleClasses x_ruleNames (fun m => y_isAbstract m = 0) E a b c d) (J : ∀ m, o = some m → ∀ S, cl_ok C M R x_ancestorsOf x_homeOf y_name x_ruleKind x_ruleClasses x_ruleNames (fun m => y_isAbstract m = 0) E S → S 2 m ∧ (y_isAbstract m = 0 → S 3 m))
    (K : ∀ a' c' d', mi_ok C M R x_ancestorsOf x_homeOf y_name x_ruleKind x_ruleClasses x_ruleNames (fun m => y_isAbstract m = 0) E a' b c' d' → mk_gr a b c d a' b c' d' → (∀ m, o = some m → bt c' m = true ∧ (y_isAbstract m = 0 → bt d' m = true)) → post (x_classCount, x_methodCount, x_ruleCount, x_isBuilt, x_faultPlace, a', b, c', d', x_depth, x_stepCount, x_outCount, x_traceCount, x_isInterfaceClass, x_chainOf, x_interfacesOf, x_ancestorsOf, x_homeOf, x_formOf, x_nameOf, x_lengthOf, x_opOf, x_classOf, x_numberOf, x_sourceMethod, x_sourceLine, x_callLine, x_ruleKind, x_ruleClasses, x_ruleNames, x_newNumber, x_familyOf, x_sightOf, x_frameRow, x_frameLine, x_frameHeld, x_outInts, x_traceMethod, x_traceLine)) :
    wpX_reachMethod post (x_classCount, x_methodCount, x_ruleCount, x_isBuilt, x_faultPlace, a, b, c, d, x_depth, x_stepCount, x_outCount, x_traceCount, x_isInterfaceClass, x_chainOf, x_interfacesOf, x_ancestorsOf, x_homeOf, x_formOf, x_nameOf, x_lengthOf, x_opOf, x_classOf, x_numberOf, x_sourceMethod, x_sourceLine, x_callLine, x_ruleKind, x_ruleClasses, x_ruleNames, x_newNumber, x_familyOf, x_sightOf, x_frameRow, x_frameLine, x_frameHeld, x_outInts, x_traceMethod, x_traceLine) (oI o) := by
  cases o with
  | none =>
    unfold wpX_reachMethod
    dsimp only
    unfold wpX_nameMethod
    dsimp only
    exact br_t rfl (br_t rfl (K a c d h (mk_gr0 a b c d) (fun m z => absurd z (by simp))))
  | some m =>
    exact xr_i T (hm m rfl) h (fun S hS _ => J m rfl S hS) (fun a' c' d' m1 m2 m3 m4 => K a' c' d' m1 m2 (fun k z => by
      have : m = k := by simpa using z
      subst this; exact ⟨m3, m4⟩))
theorem xq_o (T : tp_p C M R x_isInterfaceClass x_ancestorsOf x_interfacesOf x_chainOf y_parent y_many x_homeOf x_ruleKind x_ruleClasses x_ruleNames x_formOf x_nameOf x_lengthOf y_isAbstract y_name y_length x_opOf x_classOf x_numberOf x_sourceMethod x_sourceLine x_callLine y_op y_first y_second) {post : SX → Prop} {o : Option Nat} (hm : ∀ m, o = some m → m < M) (h : mi_ok C M R x_ancestorsOf x_homeOf y_name x_ruleKind x_ruleClasses x_ruleNames (fun m => y_isAbstract m = 0) E a b c d) (J : ∀ m, o = some m → ∀ S, cl_ok C M R x_ancestorsOf x_homeOf y_name x_ruleKind x_ruleClasses x_ruleNames (fun m => y_isAbstract m = 0) E S → S 2 m)
    (K : ∀ a' c', mi_ok C M R x_ancestorsOf x_homeOf y_name x_ruleKind x_ruleClasses x_ruleNames (fun m => y_isAbstract m = 0) E a' b c' d → mk_gr a b c d a' b c' d → (∀ m, o = some m → bt c' m = true) → post (x_classCount, x_methodCount, x_ruleCount, x_isBuilt, x_faultPlace, a', b, c', d, x_depth, x_stepCount, x_outCount, x_traceCount, x_isInterfaceClass, x_chainOf, x_interfacesOf, x_ancestorsOf, x_homeOf, x_formOf, x_nameOf, x_lengthOf, x_opOf, x_classOf, x_numberOf, x_sourceMethod, x_sourceLine, x_callLine, x_ruleKind, x_ruleClasses, x_ruleNames, x_newNumber, x_familyOf, x_sightOf, x_frameRow, x_frameLine, x_frameHeld, x_outInts, x_traceMethod, x_traceLine)) :
    wpX_nameMethod post (x_classCount, x_methodCount, x_ruleCount, x_isBuilt, x_faultPlace, a, b, c, d, x_depth, x_stepCount, x_outCount, x_traceCount, x_isInterfaceClass, x_chainOf, x_interfacesOf, x_ancestorsOf, x_homeOf, x_formOf, x_nameOf, x_lengthOf, x_opOf, x_classOf, x_numberOf, x_sourceMethod, x_sourceLine, x_callLine, x_ruleKind, x_ruleClasses, x_ruleNames, x_newNumber, x_familyOf, x_sightOf, x_frameRow, x_frameLine, x_frameHeld, x_outInts, x_traceMethod, x_traceLine) (oI o) := by
  cases o with
  | none =>
    unfold wpX_nameMethod
    dsimp only
    exact br_t rfl (K a c h (mk_gr0 a b c d) (fun m z => absurd z (by simp)))
  | some m =>
    exact xq_i T (hm m rfl) h (fun S hS _ => J m rfl S hS) (fun a' c' m1 m2 m3 => K a' c' m1 m2 (fun k z => by
      have : m = k := by simpa using z
      subst this; exact m3))
theorem fo_M (T : tp_p C M R x_isInterfaceClass x_ancestorsOf x_interfacesOf x_chainOf y_parent y_many x_homeOf x_ruleKind x_ruleClasses x_ruleNames x_formOf x_nameOf x_lengthOf y_isAbstract y_name y_length x_opOf x_classOf x_numberOf x_sourceMethod x_sourceLine x_callLine y_op y_first y_second) {k : Nat} {n : Int32} (hk : k < C) : ∀ m, fo_v M x_ancestorsOf x_chainOf x_homeOf y_name k n = some m → m < M := fun m e => (fd_s T.1 hk e).1
theorem xc_l (T : tp_p C M R x_isInterfaceClass x_ancestorsOf x_interfacesOf x_chainOf y_parent y_many x_homeOf x_ruleKind x_ruleClasses x_ruleNames x_formOf x_nameOf x_lengthOf y_isAbstract y_name y_length x_opOf x_classOf x_numberOf x_sourceMethod x_sourceLine x_callLine y_op y_first y_second) (hC : x_classCount = nI C) (hM : x_methodCount = nI M) {post : SX → Prop} {k : Nat} {n : Int32} (hk : k < C) {a0 c0 d0 : Int32}
    (J : ∀ S, cl_ok C M R x_ancestorsOf x_homeOf y_name x_ruleKind x_ruleClasses x_ruleNames (fun m => y_isAbstract m = 0) E S → ∀ e, e < C → S 1 e → bt (x_ancestorsOf e) k = true → ∀ g, fo_v M x_ancestorsOf x_chainOf x_homeOf y_name e n = some g → S 2 g ∧ (y_isAbstract g = 0 → S 3 g))
    (K : ∀ a c d, mi_ok C M R x_ancestorsOf x_homeOf y_name x_ruleKind x_ruleClasses x_ruleNames (fun m => y_isAbstract m = 0) E a b c d → mk_gr a0 b c0 d0 a b c d → (∀ e, e < C → bt b e = true → bt (x_ancestorsOf e) k = true → ∀ g, fo_v M x_ancestorsOf x_chainOf x_homeOf y_name e n = some g → bt c g = true ∧ (y_isAbstract g = 0 → bt d g = true)) → post (x_classCount, x_methodCount, x_ruleCount, x_isBuilt, x_faultPlace, a, b, c, d, x_depth, x_stepCount, x_outCount, x_traceCount, x_isInterfaceClass, x_chainOf, x_interfacesOf, x_ancestorsOf, x_homeOf, x_formOf, x_nameOf, x_lengthOf, x_opOf, x_classOf, x_numberOf, x_sourceMethod, x_sourceLine, x_callLine, x_ruleKind, x_ruleClasses, x_ruleNames, x_newNumber, x_familyOf, x_sightOf, x_frameRow, x_frameLine, x_frameHeld, x_outInts, x_traceMethod, x_traceLine)) :
    ∀ q i f a c d, i + q = C → q < f → mi_ok C M R x_ancestorsOf x_homeOf y_name x_ruleKind x_ruleClasses x_ruleNames (fun m => y_isAbstract m = 0) E a b c d → mk_gr a0 b c0 d0 a b c d →
      (∀ e, e < i → bt b e = true → bt (x_ancestorsOf e) k = true → ∀ g, fo_v M x_ancestorsOf x_chainOf x_homeOf y_name e n = some g → bt c g = true ∧ (y_isAbstract g = 0 → bt d g = true)) →
      wX_markCall_16 post (nI k) n f (nI i) x_classCount x_methodCount x_ruleCount x_isBuilt x_faultPlace a b c d x_depth x_stepCount x_outCount x_traceCount x_isInterfaceClass x_chainOf x_interfacesOf x_ancestorsOf x_homeOf x_formOf x_nameOf x_lengthOf x_opOf x_classOf x_numberOf x_sourceMethod x_sourceLine x_callLine x_ruleKind x_ruleClasses x_ruleNames x_newNumber x_familyOf x_sightOf x_frameRow x_frameLine x_frameHeld x_outInts x_traceMethod x_traceLine := by
  have h10 := T.1.1
  intro q
  induction q with
  | zero =>
    intro i f a c d e hf h g z
    obtain ⟨f, rfl⟩ : ∃ q, f = q + 1 := ⟨f - 1, by omega⟩
    have e : i = C := by omega
    subst e
    rw [wX_markCall_16]
    exact br_t (by rw [hC]; exact nI_le (Nat.le_refl _) (by omega)) (K a c d h g z)
  | succ q ih =>
    intro i f a c d e hf h g z
    obtain ⟨f, rfl⟩ : ∃ q, f = q + 1 := ⟨f - 1, by omega⟩
    have nx : ¬ (bt b i = true ∧ bt (x_ancestorsOf i) k = true) → wX_markCall_16 post (nI k) n f (nI (i + 1)) x_classCount x_methodCount x_ruleCount x_isBuilt x_faultPlace a b c d x_depth x_stepCount x_outCount x_traceCount x_isInterfaceClass x_chainOf x_interfacesOf x_ancestorsOf x_homeOf x_formOf x_nameOf x_lengthOf x_opOf x_classOf x_numberOf x_sourceMethod x_sourceLine x_callLine x_ruleKind x_ruleClasses x_ruleNames x_newNumber x_familyOf x_sightOf x_frameRow x_frameLine x_frameHeld x_outInts x_traceMethod x_traceLine := fun y =>
      ih (i + 1) f a c d (by omega) (by omega) h g (fun e he x w => by
        rcases Nat.lt_or_ge e i with v | v
        · exact z e v x w
        · have : e = i := by omega
          subst this; exact absurd ⟨x, w⟩ y)
    rw [wX_markCall_16]
    refine br_f (by rw [hC]; exact nI_ge (by omega) (by omega)) (xh_b (by omega) (fun y => ?_) (fun y => nm_r (nI_1 i) (nx (fun q => y q.1))))
    refine xd_b (by omega) (by omega) (fun w => ?_) (fun w => nm_r (nI_1 i) (nx (fun q => w q.2)))
    refine xo_v T hM (by omega) ?_
    refine xr_o T (fo_M T (by omega)) h (fun m em S hS => J S hS i (by omega) (h.1 S hS 1 i y) w m em) (fun a' c' d' m1 m2 m3 => ?_)
    refine nm_r (nI_1 i) (ih (i + 1) f a' c' d' (by omega) (by omega) m1 (mk_grt g m2) (fun e he x v => ?_))
    rcases Nat.lt_or_ge e i with u | u
    · intro m em
      exact ⟨m2.2.2.1 m (z e u x v m em).1, fun t => m2.2.2.2 m ((z e u x v m em).2 t)⟩
    · have : e = i := by omega
      subst this; exact m3
theorem xi_v (T : tp_p C M R x_isInterfaceClass x_ancestorsOf x_interfacesOf x_chainOf y_parent y_many x_homeOf x_ruleKind x_ruleClasses x_ruleNames x_formOf x_nameOf x_lengthOf y_isAbstract y_name y_length x_opOf x_classOf x_numberOf x_sourceMethod x_sourceLine x_callLine y_op y_first y_second) (hC : x_classCount = nI C) (hM : x_methodCount = nI M) {post : SX → Prop} {j : Nat} (hj : j < 1440) (hcl : x_classOf j = -1 ∨ ∃ k, k < C ∧ x_classOf j = nI k) (h : mi_ok C M R x_ancestorsOf x_homeOf y_name x_ruleKind x_ruleClasses x_ruleNames (fun m => y_isAbstract m = 0) E a b c d)
    (J : ∀ S, cl_ok C M R x_ancestorsOf x_homeOf y_name x_ruleKind x_ruleClasses x_ruleNames (fun m => y_isAbstract m = 0) E S → ex_p C (fun m => y_isAbstract m = 0) x_ancestorsOf (fo_v M x_ancestorsOf x_chainOf x_homeOf y_name) (x_opOf j) (x_classOf j) (x_numberOf j) S)
    (K : ∀ a' b' c' d', mi_ok C M R x_ancestorsOf x_homeOf y_name x_ruleKind x_ruleClasses x_ruleNames (fun m => y_isAbstract m = 0) E a' b' c' d' → mk_gr a b c d a' b' c' d' → ex_p C (fun m => y_isAbstract m = 0) x_ancestorsOf (fo_v M x_ancestorsOf x_chainOf x_homeOf y_name) (x_opOf j) (x_classOf j) (x_numberOf j) (mk_s a' b' c' d') → post (x_classCount, x_methodCount, x_ruleCount, x_isBuilt, x_faultPlace, a', b', c', d', x_depth, x_stepCount, x_outCount, x_traceCount, x_isInterfaceClass, x_chainOf, x_interfacesOf, x_ancestorsOf, x_homeOf, x_formOf, x_nameOf, x_lengthOf, x_opOf, x_classOf, x_numberOf, x_sourceMethod, x_sourceLine, x_callLine, x_ruleKind, x_ruleClasses, x_ruleNames, x_newNumber, x_familyOf, x_sightOf, x_frameRow, x_frameLine, x_frameHeld, x_outInts, x_traceMethod, x_traceLine)) :
    wpX_markInstruction post (x_classCount, x_methodCount, x_ruleCount, x_isBuilt, x_faultPlace, a, b, c, d, x_depth, x_stepCount, x_outCount, x_traceCount, x_isInterfaceClass, x_chainOf, x_interfacesOf, x_ancestorsOf, x_homeOf, x_formOf, x_nameOf, x_lengthOf, x_opOf, x_classOf, x_numberOf, x_sourceMethod, x_sourceLine, x_callLine, x_ruleKind, x_ruleClasses, x_ruleNames, x_newNumber, x_familyOf, x_sightOf, x_frameRow, x_frameLine, x_frameHeld, x_outInts, x_traceMethod, x_traceLine) (nI j) := by
  have h10 := T.1.1
  unfold wpX_markInstruction
  dsimp only
  rw [nI_c (by omega)]
  refine ⟨vp_in_nI hj (by decide), nm_e ?_⟩
  rcases hcl with e | ⟨k, hk, e⟩
  · exact br_t e (K a b c d h (mk_gr0 a b c d) (fun z => absurd e z))
  · rw [e] at J K ⊢
    have hke : hq_t (nI k) = k := hq_e (by omega)
    have nk : ¬ nI k = -1 := oI_n (by omega)
    obtain ⟨m1, m2, m3⟩ := mi_N T.1 h hk (fun S hS _ => by have := (J S hS nk).1; rw [hke] at this; exact this)
    refine br_f nk ⟨vp_in_nI (by omega) (by decide), ?_⟩
    rw [nI_c (by omega)]
    refine nm_e ⟨vp_in_nI hj (by decide), nm_e ?_⟩
    have oth : ∀ a' b' c' d', mi_ok C M R x_ancestorsOf x_homeOf y_name x_ruleKind x_ruleClasses x_ruleNames (fun m => y_isAbstract m = 0) E a' b' c' d' → mk_gr (a ||| x_ancestorsOf k) b c d a' b' c' d' → (x_opOf j = 1 → bt b' k = true) →
        (x_opOf j = 3 → ∀ f, fo_v M x_ancestorsOf x_chainOf x_homeOf y_name k (x_numberOf j) = some f → bt c' f = true ∧ (y_isAbstract f = 0 → bt d' f = true)) →
        (x_opOf j = 2 → (∀ f, fo_v M x_ancestorsOf x_chainOf x_homeOf y_name k (x_numberOf j) = some f → bt c' f = true) ∧ ∀ e, e < C → bt b' e = true → bt (x_ancestorsOf e) k = true → ∀ g, fo_v M x_ancestorsOf x_chainOf x_homeOf y_name e (x_numberOf j) = some g → bt c' g = true ∧ (y_isAbstract g = 0 → bt d' g = true)) →
        post (x_classCount, x_methodCount, x_ruleCount, x_isBuilt, x_faultPlace, a', b', c', d', x_depth, x_stepCount, x_outCount, x_traceCount, x_isInterfaceClass, x_chainOf, x_interfacesOf, x_ancestorsOf, x_homeOf, x_formOf, x_nameOf, x_lengthOf, x_opOf, x_classOf, x_numberOf, x_sourceMethod, x_sourceLine, x_callLine, x_ruleKind, x_ruleClasses, x_ruleNames, x_newNumber, x_familyOf, x_sightOf, x_frameRow, x_frameLine, x_frameHeld, x_outInts, x_traceMethod, x_traceLine) := fun a' b' c' d' p1 p2 p3 p4 p5 => K a' b' c' d' p1 (mk_grt m2 p2) (fun _ => by rw [hke]; exact ⟨p2.1 k m3, p3, p4, p5⟩)
    refine br_c (fun z => ?_) (fun z0 => br_c (fun z => ?_) (fun z3 => br_c (fun z => ?_) (fun z1 => br_c (fun z => ?_) (fun z2 => br_c (fun z => ?_) (fun _ => trivial)))))
    · exact oth _ _ _ _ m1 (mk_gr0 _ _ _ _) (fun y => by rw [y] at z; exact absurd z (by decide)) (fun y => by rw [y] at z; exact absurd z (by decide)) (fun y => by rw [y] at z; exact absurd z (by decide))
    · exact oth _ _ _ _ m1 (mk_gr0 _ _ _ _) (fun y => by rw [y] at z; exact absurd z (by decide)) (fun y => by rw [y] at z; exact absurd z (by decide)) (fun y => by rw [y] at z; exact absurd z (by decide))
    · obtain ⟨n1, n2, n3⟩ := mi_D h10 m1 hk (fun S hS _ => by have := (J S hS nk).2.1 z; rw [hke] at this; exact this)
      exact nm_e (oth _ _ _ _ n1 n2 (fun _ => n3) (fun y => by rw [y] at z; exact absurd z (by decide)) (fun y => by rw [y] at z; exact absurd z (by decide)))
    · refine ⟨vp_in_nI hj (by decide), ?_⟩
      unfold wpX_markCall
      dsimp only
      have J2 : ∀ S, cl_ok C M R x_ancestorsOf x_homeOf y_name x_ruleKind x_ruleClasses x_ruleNames (fun m => y_isAbstract m = 0) E S → (∀ f, fo_v M x_ancestorsOf x_chainOf x_homeOf y_name k (x_numberOf j) = some f → S 2 f) ∧ ∀ e, e < C → S 1 e → bt (x_ancestorsOf e) k = true → ∀ g, fo_v M x_ancestorsOf x_chainOf x_homeOf y_name e (x_numberOf j) = some g → S 2 g ∧ (y_isAbstract g = 0 → S 3 g) := fun S hS => by
        have := (J S hS nk).2.2.2 z; rw [hke] at this; exact this
      refine xo_v T hM hk ?_
      refine xq_o T (fo_M T hk) m1 (fun m em S hS => (J2 S hS).1 m em) (fun a' c' p1 p2 p3 => ?_)
      refine ⟨C + 1, xc_l T hC hM hk (fun S hS => (J2 S hS).2) (fun a'' c'' d'' r1 r2 r3 => ?_) C 0 (C + 1) a' c' d (by omega) (by omega) p1 (mk_gr0 _ _ _ _) (fun e he => by omega)⟩
      exact oth _ _ _ _ r1 (mk_grt p2 r2) (fun y => by rw [y] at z; exact absurd z (by decide)) (fun y => by rw [y] at z; exact absurd z (by decide)) (fun _ => ⟨fun f ef => r2.2.2.1 f (p3 f ef), r3⟩)
    · refine ⟨vp_in_nI hj (by decide), ?_⟩
      refine xo_v T hM hk ?_
      refine xr_o T (fo_M T hk) m1 (fun m em S hS => by have := (J S hS nk).2.2.1 z; rw [hke] at this; exact this m em) (fun a' c' d' p1 p2 p3 => ?_)
      exact oth _ _ _ _ p1 p2 (fun y => by rw [y] at z; exact absurd z (by decide)) (fun _ => p3) (fun y => by rw [y] at z; exact absurd z (by decide))
end
end
section
/-! ===== X's rounds of marking ===== -/
section
variable {x_classCount x_methodCount x_ruleCount x_isBuilt x_faultPlace x_namedClasses x_madeClasses x_namedMethods x_liveMethods x_depth x_stepCount x_outCount x_traceCount : Int32} {x_isInterfaceClass x_chainOf x_interfacesOf x_ancestorsOf x_homeOf x_formOf x_nameOf x_lengthOf x_opOf x_classOf x_numberOf x_sourceMethod x_sourceLine x_callLine x_ruleKind x_ruleClasses x_ruleNames x_newNumber x_familyOf x_sightOf x_frameRow x_frameLine x_frameHeld x_outInts x_traceMethod x_traceLine : Nat → Int32} {y_parent y_many y_isAbstract y_name y_length y_op y_first y_second : Nat → Int32} {C M R w : Nat} {a b c d : Int32}
/-- the lines of one LIVE method -/
theorem xk_l (T : tp_p C M R x_isInterfaceClass x_ancestorsOf x_interfacesOf x_chainOf y_parent y_many x_homeOf x_ruleKind x_ruleClasses x_ruleNames x_formOf x_nameOf x_lengthOf y_isAbstract y_name y_length x_opOf x_classOf x_numberOf x_sourceMethod x_sourceLine x_callLine y_op y_first y_second) (hC : x_classCount = nI C) (hM : x_methodCount = nI M) {post : SX → Prop} {J28 : Int32 → Int32 → Int32 → Int32 → Int32 → Int32 → Int32 → Int32 → Int32 → Int32 → Int32 → Int32 → Int32 → Int32 → Int32 → (Nat → Int32) → (Nat → Int32) → (Nat → Int32) → (Nat → Int32) → (Nat → Int32) → (Nat → Int32) → (Nat → Int32) → (Nat → Int32) → (Nat → Int32) → (Nat → Int32) → (Nat → Int32) → (Nat → Int32) → (Nat → Int32) → (Nat → Int32) → (Nat → Int32) → (Nat → Int32) → (Nat → Int32) → (Nat → Int32) → (Nat → Int32) → (Nat → Int32) → (Nat → Int32) → (Nat → Int32) → (Nat → Int32) → (Nat → Int32) → (Nat → Int32) → (Nat → Int32) → Prop} {x1 x3 x4 x5 x6 x7 : Int32} {r i L : Nat} (hr : r < 60) (hL : L ≤ 24)
    {a0 b0 c0 d0 : Int32} {J66 : Int32 → Int32 → Int32 → Int32 → Int32 → Int32 → Int32 → Int32 → Int32 → Int32 → Int32 → Int32 → Int32 → Int32 → (Nat → Int32) → (Nat → Int32) → (Nat → Int32) → (Nat → Int32) → (Nat → Int32) → (Nat → Int32) → (Nat → Int32) → (Nat → Int32) → (Nat → Int32) → (Nat → Int32) → (Nat → Int32) → (Nat → Int32) → (Nat → Int32) → (Nat → Int32) → (Nat → Int32) → (Nat → Int32) → (Nat → Int32) → (Nat → Int32) → (Nat → Int32) → (Nat → Int32) → (Nat → Int32) → (Nat → Int32) → (Nat → Int32) → (Nat → Int32) → (Nat → Int32) → (Nat → Int32) → Prop}
    (hcl : ∀ k, k < L → x_classOf (24 * r + k) = -1 ∨ ∃ q, q < C ∧ x_classOf (24 * r + k) = nI q)
    (J : ∀ S, cl_ok C M R x_ancestorsOf x_homeOf y_name x_ruleKind x_ruleClasses x_ruleNames (fun m => y_isAbstract m = 0) (ew_p C (fun m => y_isAbstract m = 0) x_ancestorsOf (fo_v M x_ancestorsOf x_chainOf x_homeOf y_name) x_lengthOf x_opOf x_classOf x_numberOf w) S → ∀ k, k < L → ex_p C (fun m => y_isAbstract m = 0) x_ancestorsOf (fo_v M x_ancestorsOf x_chainOf x_homeOf y_name) (x_opOf (24 * r + k)) (x_classOf (24 * r + k)) (x_numberOf (24 * r + k)) S)
    (K : ∀ a b c d, mi_ok C M R x_ancestorsOf x_homeOf y_name x_ruleKind x_ruleClasses x_ruleNames (fun m => y_isAbstract m = 0) (ew_p C (fun m => y_isAbstract m = 0) x_ancestorsOf (fo_v M x_ancestorsOf x_chainOf x_homeOf y_name) x_lengthOf x_opOf x_classOf x_numberOf w) a b c d → mk_gr a0 b0 c0 d0 a b c d →
      ((a = a0 ∧ b = b0 ∧ c = c0 ∧ d = d0) → ∀ k, k < L → ex_p C (fun m => y_isAbstract m = 0) x_ancestorsOf (fo_v M x_ancestorsOf x_chainOf x_homeOf y_name) (x_opOf (24 * r + k)) (x_classOf (24 * r + k)) (x_numberOf (24 * r + k)) (mk_s a0 b0 c0 d0)) → J66 (nI (i + 1)) x_classCount x_methodCount x_ruleCount x_isBuilt x_faultPlace a b c d x_depth x_stepCount x_outCount x_traceCount x_isInterfaceClass x_chainOf x_interfacesOf x_ancestorsOf x_homeOf x_formOf x_nameOf x_lengthOf x_opOf x_classOf x_numberOf x_sourceMethod x_sourceLine x_callLine x_ruleKind x_ruleClasses x_ruleNames x_newNumber x_familyOf x_sightOf x_frameRow x_frameLine x_frameHeld x_outInts x_traceMethod x_traceLine) :
    ∀ q k f a b c d, k + q = L → q < f → mi_ok C M R x_ancestorsOf x_homeOf y_name x_ruleKind x_ruleClasses x_ruleNames (fun m => y_isAbstract m = 0) (ew_p C (fun m => y_isAbstract m = 0) x_ancestorsOf (fo_v M x_ancestorsOf x_chainOf x_homeOf y_name) x_lengthOf x_opOf x_classOf x_numberOf w) a b c d → mk_gr a0 b0 c0 d0 a b c d →
      ((a = a0 ∧ b = b0 ∧ c = c0 ∧ d = d0) → ∀ j, j < k → ex_p C (fun m => y_isAbstract m = 0) x_ancestorsOf (fo_v M x_ancestorsOf x_chainOf x_homeOf y_name) (x_opOf (24 * r + j)) (x_classOf (24 * r + j)) (x_numberOf (24 * r + j)) (mk_s a0 b0 c0 d0)) →
      wX_markFrom_112 post J28 J66 x1 x3 x4 x5 x6 x7 (nI i) (nI r) (nI L) f (nI k) x_classCount x_methodCount x_ruleCount x_isBuilt x_faultPlace a b c d x_depth x_stepCount x_outCount x_traceCount x_isInterfaceClass x_chainOf x_interfacesOf x_ancestorsOf x_homeOf x_formOf x_nameOf x_lengthOf x_opOf x_classOf x_numberOf x_sourceMethod x_sourceLine x_callLine x_ruleKind x_ruleClasses x_ruleNames x_newNumber x_familyOf x_sightOf x_frameRow x_frameLine x_frameHeld x_outInts x_traceMethod x_traceLine := by
  intro q
  induction q with
  | zero =>
    intro k f a b c d e hf h g z
    obtain ⟨f, rfl⟩ : ∃ q, f = q + 1 := ⟨f - 1, by omega⟩
    have e : k = L := by omega
    subst e
    rw [wX_markFrom_112]
    exact br_t (nI_le (Nat.le_refl _) (by omega)) (nm_r (nI_1 i) (K a b c d h g z))
  | succ q ih =>
    intro k f a b c d e hf h g z
    obtain ⟨f, rfl⟩ : ∃ q, f = q + 1 := ⟨f - 1, by omega⟩
    rw [wX_markFrom_112]
    refine br_f (nI_ge (by omega) (by omega)) ?_
    rw [nI_a24]
    refine xi_v T hC hM (by omega) (hcl k (by omega)) h (fun S hS => J S hS k (by omega)) (fun a' b' c' d' m1 m2 m3 => ?_)
    refine nm_r (nI_1 k) (ih (k + 1) f a' b' c' d' (by omega) (by omega) m1 (mk_grt g m2) (fun s j hj => ?_))
    obtain ⟨s1, s2, s3, s4⟩ := s
    subst s1 s2 s3 s4
    rcases Nat.lt_or_ge j k with v | v
    · obtain ⟨t1, t2, t3, t4⟩ := mk_gre g m2
      exact z ⟨t1, t2, t3, t4⟩ j v
    · have : j = k := by omega
      subst this; exact m3
/-- a round over all methods -/
theorem xk_m (T : tp_p C M R x_isInterfaceClass x_ancestorsOf x_interfacesOf x_chainOf y_parent y_many x_homeOf x_ruleKind x_ruleClasses x_ruleNames x_formOf x_nameOf x_lengthOf y_isAbstract y_name y_length x_opOf x_classOf x_numberOf x_sourceMethod x_sourceLine x_callLine y_op y_first y_second) (hC : x_classCount = nI C) (hM : x_methodCount = nI M) (hw : w < 2) (hcl : ∀ m k, m < M → k < hq_t (x_lengthOf (30 * w + m)) → x_classOf (24 * (30 * w + m) + k) = -1 ∨ ∃ q, q < C ∧ x_classOf (24 * (30 * w + m) + k) = nI q) (hln : ∀ m, m < M → hq_t (x_lengthOf (30 * w + m)) ≤ 24 ∧ x_lengthOf (30 * w + m) = nI (hq_t (x_lengthOf (30 * w + m)))) {post : SX → Prop} {J28 : Int32 → Int32 → Int32 → Int32 → Int32 → Int32 → Int32 → Int32 → Int32 → Int32 → Int32 → Int32 → Int32 → Int32 → Int32 → (Nat → Int32) → (Nat → Int32) → (Nat → Int32) → (Nat → Int32) → (Nat → Int32) → (Nat → Int32) → (Nat → Int32) → (Nat → Int32) → (Nat → Int32) → (Nat → Int32) → (Nat → Int32) → (Nat → Int32) → (Nat → Int32) → (Nat → Int32) → (Nat → Int32) → (Nat → Int32) → (Nat → Int32) → (Nat → Int32) → (Nat → Int32) → (Nat → Int32) → (Nat → Int32) → (Nat → Int32) → (Nat → Int32) → (Nat → Int32) → (Nat → Int32) → (Nat → Int32) → Prop} {r : Nat}
    {a0 b0 c0 d0 : Int32}
    (K0 : ∀ a b c d, mi_ok C M R x_ancestorsOf x_homeOf y_name x_ruleKind x_ruleClasses x_ruleNames (fun m => y_isAbstract m = 0) (ew_p C (fun m => y_isAbstract m = 0) x_ancestorsOf (fo_v M x_ancestorsOf x_chainOf x_homeOf y_name) x_lengthOf x_opOf x_classOf x_numberOf w) a b c d → a = a0 → b = b0 → c = c0 → d = d0 → (∀ m, m < M → bt d0 m = true → ew_p C (fun m => y_isAbstract m = 0) x_ancestorsOf (fo_v M x_ancestorsOf x_chainOf x_homeOf y_name) x_lengthOf x_opOf x_classOf x_numberOf w m (mk_s a0 b0 c0 d0)) → J28 0 (nI (r + 1)) x_classCount x_methodCount x_ruleCount x_isBuilt x_faultPlace a b c d x_depth x_stepCount x_outCount x_traceCount x_isInterfaceClass x_chainOf x_interfacesOf x_ancestorsOf x_homeOf x_formOf x_nameOf x_lengthOf x_opOf x_classOf x_numberOf x_sourceMethod x_sourceLine x_callLine x_ruleKind x_ruleClasses x_ruleNames x_newNumber x_familyOf x_sightOf x_frameRow x_frameLine x_frameHeld x_outInts x_traceMethod x_traceLine)
    (K1 : ∀ a b c d, mi_ok C M R x_ancestorsOf x_homeOf y_name x_ruleKind x_ruleClasses x_ruleNames (fun m => y_isAbstract m = 0) (ew_p C (fun m => y_isAbstract m = 0) x_ancestorsOf (fo_v M x_ancestorsOf x_chainOf x_homeOf y_name) x_lengthOf x_opOf x_classOf x_numberOf w) a b c d → mk_gr a0 b0 c0 d0 a b c d → ¬ (a0 = a ∧ b0 = b ∧ c0 = c ∧ d0 = d) → J28 1 (nI (r + 1)) x_classCount x_methodCount x_ruleCount x_isBuilt x_faultPlace a b c d x_depth x_stepCount x_outCount x_traceCount x_isInterfaceClass x_chainOf x_interfacesOf x_ancestorsOf x_homeOf x_formOf x_nameOf x_lengthOf x_opOf x_classOf x_numberOf x_sourceMethod x_sourceLine x_callLine x_ruleKind x_ruleClasses x_ruleNames x_newNumber x_familyOf x_sightOf x_frameRow x_frameLine x_frameHeld x_outInts x_traceMethod x_traceLine) :
    ∀ q i f a b c d, i + q = M → q < f → mi_ok C M R x_ancestorsOf x_homeOf y_name x_ruleKind x_ruleClasses x_ruleNames (fun m => y_isAbstract m = 0) (ew_p C (fun m => y_isAbstract m = 0) x_ancestorsOf (fo_v M x_ancestorsOf x_chainOf x_homeOf y_name) x_lengthOf x_opOf x_classOf x_numberOf w) a b c d → mk_gr a0 b0 c0 d0 a b c d →
      ((a = a0 ∧ b = b0 ∧ c = c0 ∧ d = d0) → ∀ m, m < i → bt d0 m = true → ew_p C (fun m => y_isAbstract m = 0) x_ancestorsOf (fo_v M x_ancestorsOf x_chainOf x_homeOf y_name) x_lengthOf x_opOf x_classOf x_numberOf w m (mk_s a0 b0 c0 d0)) →
      wX_markFrom_66 post J28 (nI w) (nI r) a0 b0 c0 d0 f (nI i) x_classCount x_methodCount x_ruleCount x_isBuilt x_faultPlace a b c d x_depth x_stepCount x_outCount x_traceCount x_isInterfaceClass x_chainOf x_interfacesOf x_ancestorsOf x_homeOf x_formOf x_nameOf x_lengthOf x_opOf x_classOf x_numberOf x_sourceMethod x_sourceLine x_callLine x_ruleKind x_ruleClasses x_ruleNames x_newNumber x_familyOf x_sightOf x_frameRow x_frameLine x_frameHeld x_outInts x_traceMethod x_traceLine := by
  have h30 := T.2.2.1.1
  intro q
  induction q with
  | zero =>
    intro i f a b c d e hf h g z
    obtain ⟨f, rfl⟩ : ∃ q, f = q + 1 := ⟨f - 1, by omega⟩
    have e : i = M := by omega
    subst e
    rw [wX_markFrom_66]
    refine br_t (by rw [hM]; exact nI_le (Nat.le_refl _) (by omega)) ?_
    refine br_c (fun ea => ?_) (fun ea => nm_r (nI_1 r) (K1 a b c d h g (fun q => ea q.1)))
    refine br_c (fun eb => ?_) (fun eb => nm_r (nI_1 r) (K1 a b c d h g (fun q => eb q.2.1)))
    refine br_c (fun ec => ?_) (fun ec => nm_r (nI_1 r) (K1 a b c d h g (fun q => ec q.2.2.1)))
    refine br_c (fun ed => ?_) (fun ed => nm_r (nI_1 r) (K1 a b c d h g (fun q => ed q.2.2.2)))
    exact nm_r (nI_1 r) (K0 a b c d h ea.symm eb.symm ec.symm ed.symm (z ⟨ea.symm, eb.symm, ec.symm, ed.symm⟩))
  | succ q ih =>
    intro i f a b c d e hf h g z
    obtain ⟨f, rfl⟩ : ∃ q, f = q + 1 := ⟨f - 1, by omega⟩
    obtain ⟨l1, l2⟩ := hln i (by omega)
    rw [wX_markFrom_66]
    refine br_f (by rw [hM]; exact nI_ge (by omega) (by omega)) (nm_r (nI_a30 w i) (xh_b (by omega) (fun y => ⟨vp_in_nI (by omega) (by decide), ?_⟩) (fun y => ?_)))
    · rw [nI_c (by omega)]
      refine nm_r l2 ⟨hq_t (x_lengthOf (30 * w + i)) + 1, ?_⟩
      refine xk_l T hC hM (by omega) l1 (fun k hk => hcl i k (by omega) hk) (fun S hS k hk => hS.2.2.2 i (by omega) (h.1 S hS 3 i y) k hk) (fun a' b' c' d' m1 m2 m3 => ?_)
        (hq_t (x_lengthOf (30 * w + i))) 0 _ a b c d (by omega) (by omega) h (mk_gr0 a b c d) (fun _ j hj => by omega)
      refine ih (i + 1) f a' b' c' d' (by omega) (by omega) m1 (mk_grt g m2) (fun s m hm y => ?_)
      obtain ⟨s1, s2, s3, s4⟩ := s
      subst s1 s2 s3 s4
      obtain ⟨t1, t2, t3, t4⟩ := mk_gre g m2
      rcases Nat.lt_or_ge m i with v | v
      · exact z ⟨t1, t2, t3, t4⟩ m v y
      · have : m = i := by omega
        subst this
        subst t1 t2 t3 t4
        exact m3 ⟨rfl, rfl, rfl, rfl⟩
    · refine ⟨1, ?_⟩
      refine xk_l T hC hM (L := 0) (by omega) (by omega) (fun k hk => by omega) (fun S hS k hk => by omega) (fun a' b' c' d' m1 m2 m3 => ?_) 0 0 1 a b c d (by omega) (by omega) h (mk_gr0 a b c d) (fun _ j hj => by omega)
      refine ih (i + 1) f a' b' c' d' (by omega) (by omega) m1 (mk_grt g m2) (fun s m hm x => ?_)
      obtain ⟨s1, s2, s3, s4⟩ := s
      subst s1 s2 s3 s4
      obtain ⟨t1, t2, t3, t4⟩ := mk_gre g m2
      rcases Nat.lt_or_ge m i with v | v
      · exact z ⟨t1, t2, t3, t4⟩ m v x
      · have : m = i := by omega
        subst this
        subst t1 t2 t3 t4
        exact absurd x y
/-- X's marking ends with the least closed sets -/
theorem xk_v (T : tp_p C M R x_isInterfaceClass x_ancestorsOf x_interfacesOf x_chainOf y_parent y_many x_homeOf x_ruleKind x_ruleClasses x_ruleNames x_formOf x_nameOf x_lengthOf y_isAbstract y_name y_length x_opOf x_classOf x_numberOf x_sourceMethod x_sourceLine x_callLine y_op y_first y_second) (hC : x_classCount = nI C) (hM : x_methodCount = nI M) (hR : x_ruleCount = nI R) (hw : w < 2) (hcl : ∀ m k, m < M → k < hq_t (x_lengthOf (30 * w + m)) → x_classOf (24 * (30 * w + m) + k) = -1 ∨ ∃ q, q < C ∧ x_classOf (24 * (30 * w + m) + k) = nI q) (hln : ∀ m, m < M → hq_t (x_lengthOf (30 * w + m)) ≤ 24 ∧ x_lengthOf (30 * w + m) = nI (hq_t (x_lengthOf (30 * w + m)))) {post : SX → Prop}
    (K : ∀ a b c d, mi_ok C M R x_ancestorsOf x_homeOf y_name x_ruleKind x_ruleClasses x_ruleNames (fun m => y_isAbstract m = 0) (ew_p C (fun m => y_isAbstract m = 0) x_ancestorsOf (fo_v M x_ancestorsOf x_chainOf x_homeOf y_name) x_lengthOf x_opOf x_classOf x_numberOf w) a b c d → cl_ok C M R x_ancestorsOf x_homeOf y_name x_ruleKind x_ruleClasses x_ruleNames (fun m => y_isAbstract m = 0) (ew_p C (fun m => y_isAbstract m = 0) x_ancestorsOf (fo_v M x_ancestorsOf x_chainOf x_homeOf y_name) x_lengthOf x_opOf x_classOf x_numberOf w) (mk_s a b c d) → post (x_classCount, x_methodCount, x_ruleCount, x_isBuilt, x_faultPlace, a, b, c, d, x_depth, x_stepCount, x_outCount, x_traceCount, x_isInterfaceClass, x_chainOf, x_interfacesOf, x_ancestorsOf, x_homeOf, x_formOf, x_nameOf, x_lengthOf, x_opOf, x_classOf, x_numberOf, x_sourceMethod, x_sourceLine, x_callLine, x_ruleKind, x_ruleClasses, x_ruleNames, x_newNumber, x_familyOf, x_sightOf, x_frameRow, x_frameLine, x_frameHeld, x_outInts, x_traceMethod, x_traceLine)) : wpX_markFrom post (x_classCount, x_methodCount, x_ruleCount, x_isBuilt, x_faultPlace, x_namedClasses, x_madeClasses, x_namedMethods, x_liveMethods, x_depth, x_stepCount, x_outCount, x_traceCount, x_isInterfaceClass, x_chainOf, x_interfacesOf, x_ancestorsOf, x_homeOf, x_formOf, x_nameOf, x_lengthOf, x_opOf, x_classOf, x_numberOf, x_sourceMethod, x_sourceLine, x_callLine, x_ruleKind, x_ruleClasses, x_ruleNames, x_newNumber, x_familyOf, x_sightOf, x_frameRow, x_frameLine, x_frameHeld, x_outInts, x_traceMethod, x_traceLine) (nI w) := by
  have fin : ∀ a b c d, mi_ok C M R x_ancestorsOf x_homeOf y_name x_ruleKind x_ruleClasses x_ruleNames (fun m => y_isAbstract m = 0) (ew_p C (fun m => y_isAbstract m = 0) x_ancestorsOf (fo_v M x_ancestorsOf x_chainOf x_homeOf y_name) x_lengthOf x_opOf x_classOf x_numberOf w) a b c d → (∀ r, r < R → x_ruleKind r = 0 → rt_p C M x_homeOf y_name x_ruleClasses x_ruleNames (fun m => y_isAbstract m = 0) r a c d) → (∀ m, m < M → bt d m = true → ew_p C (fun m => y_isAbstract m = 0) x_ancestorsOf (fo_v M x_ancestorsOf x_chainOf x_homeOf y_name) x_lengthOf x_opOf x_classOf x_numberOf w m (mk_s a b c d)) → cl_ok C M R x_ancestorsOf x_homeOf y_name x_ruleKind x_ruleClasses x_ruleNames (fun m => y_isAbstract m = 0) (ew_p C (fun m => y_isAbstract m = 0) x_ancestorsOf (fo_v M x_ancestorsOf x_chainOf x_homeOf y_name) x_lengthOf x_opOf x_classOf x_numberOf w) (mk_s a b c d) := fun a b c d h t z =>
    ⟨t, fun m _ y => h.2.2.2.2.2.2 m y, fun k _ y i x => h.2.2.2.2.2.1 k i y x, z⟩
  have lo : ∀ q r f a b c d, pc_4 a b c d + q = 128 → q + 1 < f → r ≤ pc_4 a b c d → mi_ok C M R x_ancestorsOf x_homeOf y_name x_ruleKind x_ruleClasses x_ruleNames (fun m => y_isAbstract m = 0) (ew_p C (fun m => y_isAbstract m = 0) x_ancestorsOf (fo_v M x_ancestorsOf x_chainOf x_homeOf y_name) x_lengthOf x_opOf x_classOf x_numberOf w) a b c d → (∀ r, r < R → x_ruleKind r = 0 → rt_p C M x_homeOf y_name x_ruleClasses x_ruleNames (fun m => y_isAbstract m = 0) r a c d) → wX_markFrom_28 post (nI w) f 1 (nI r) x_classCount x_methodCount x_ruleCount x_isBuilt x_faultPlace a b c d x_depth x_stepCount x_outCount x_traceCount x_isInterfaceClass x_chainOf x_interfacesOf x_ancestorsOf x_homeOf x_formOf x_nameOf x_lengthOf x_opOf x_classOf x_numberOf x_sourceMethod x_sourceLine x_callLine x_ruleKind x_ruleClasses x_ruleNames x_newNumber x_familyOf x_sightOf x_frameRow x_frameLine x_frameHeld x_outInts x_traceMethod x_traceLine := by
    intro q
    induction q using Nat.strongRecOn with
    | ind q ih =>
      intro r f a b c d e hf hr h t
      obtain ⟨f, rfl⟩ : ∃ q, f = q + 1 := ⟨f - 1, by omega⟩
      rw [wX_markFrom_28]
      refine br_f (nI_ge (b := 1000) (by omega) (by decide)) (br_f (by decide) ⟨M + 1, ?_⟩)
      refine xk_m T hC hM hw hcl hln (fun a' b' c' d' m1 s1 s2 s3 s4 m2 => ?_) (fun a' b' c' d' m1 m2 m3 => ?_) M 0 (M + 1) a b c d (by omega) (by omega) h (mk_gr0 a b c d) (fun _ m hm => by omega)
      · subst s1 s2 s3 s4
        obtain ⟨f, rfl⟩ : ∃ q, f = q + 1 := ⟨f - 1, by omega⟩
        rw [wX_markFrom_28]
        have := K a' b' c' d' m1 (fin a' b' c' d' m1 t m2)
        exact br_c (fun _ => this) (fun _ => br_t rfl this)
      · have lt := pc_4l m2.1 m2.2.1 m2.2.2.1 m2.2.2.2 m3
        have mx := pc_4m a' b' c' d'
        exact ih (128 - pc_4 a' b' c' d') (by omega) (r + 1) f a' b' c' d' (by omega) (by omega) (by omega) m1 (fun r hr y => rt_g (t r hr y) m2)
  unfold wpX_markFrom
  dsimp only
  unfold wpX_markRoots
  dsimp only
  refine ⟨R + 1, ?_⟩
  refine xr_l T hC hM hR (E := ew_p C (fun m => y_isAbstract m = 0) x_ancestorsOf (fo_v M x_ancestorsOf x_chainOf x_homeOf y_name) x_lengthOf x_opOf x_classOf x_numberOf w) (fun a b c d h t => ?_) R 0 (R + 1) 0 0 0 0 (by omega) (by omega) mi_0 (fun r hr => by omega)
  have mx := pc_4m a b c d
  dsimp only
  exact ⟨130, lo (128 - pc_4 a b c d) 0 130 a b c d (by omega) (by omega) (by omega) h t⟩
end
end
section
/-! ===== Y's marking ===== -/
def ey_p (C : Nat) (fil : Nat → Prop) (anc : Nat → Int32) (F : Nat → Int32 → Option Nat) (ylen yop yfi yse yin : Nat → Int32) (m : Nat) (S : Nat → Nat → Prop) : Prop :=
  ∀ k, k < hq_t (ylen m) → ef_p C anc fil F (yop (6 * m + k)) (yfi (6 * m + k)) (yse (6 * m + k)) (¬ yin (6 * m + k) < 0) S
def my_p (Cl : (Nat → Nat → Prop) → Prop) (a b c d : Int32) : Prop := ∀ S, Cl S → mk_le a b c d S
section
variable {y_classes y_methods y_rules y_place y_named y_made y_namedMethods y_live y_built y_depth y_steps y_outs y_ending : Int32} {y_isInterface y_isAbstract y_parent y_ancestors y_own y_many y_home y_name y_length y_op y_first y_second y_ruleKind y_ruleClasses y_ruleNames y_inlined y_number y_newName y_family y_vMethod y_vLine y_vHeld y_put : Nat → Int32} {chn xform xname xlen xop xcl xnu xsm xsl xca : Nat → Int32} {C M R : Nat} {Cl : (Nat → Nat → Prop) → Prop} {a b c d : Int32}
theorem yr_1 {post : SY → Prop} {m : Nat} (hm : m < 30) (h : my_p Cl a b c d) (J : ∀ S, Cl S → S 2 m ∧ (y_isAbstract m = 0 → S 3 m))
    (K : ∀ c' d', my_p Cl a b c' d' → mk_gr a b c d a b c' d' → bt c' m = true → (y_isAbstract m = 0 → bt d' m = true) → post (y_classes, y_methods, y_rules, y_place, a, b, c', d', y_built, y_depth, y_steps, y_outs, y_ending, y_isInterface, y_isAbstract, y_parent, y_ancestors, y_own, y_many, y_home, y_name, y_length, y_op, y_first, y_second, y_ruleKind, y_ruleClasses, y_ruleNames, y_inlined, y_number, y_newName, y_family, y_vMethod, y_vLine, y_vHeld, y_put)) :
    wpY_reach post (y_classes, y_methods, y_rules, y_place, a, b, c, d, y_built, y_depth, y_steps, y_outs, y_ending, y_isInterface, y_isAbstract, y_parent, y_ancestors, y_own, y_many, y_home, y_name, y_length, y_op, y_first, y_second, y_ruleKind, y_ruleClasses, y_ruleNames, y_inlined, y_number, y_newName, y_family, y_vMethod, y_vLine, y_vHeld, y_put) (nI m) 1 := by
  unfold wpY_reach
  dsimp only
  rw [nI_c (by omega)]
  refine nm_e (br_f (by decide) ⟨vp_in_nI hm (by decide), br_c (fun z => nm_e (K _ _ ?_ ?_ ?_ ?_)) (fun z => K _ _ ?_ ?_ ?_ ?_)⟩)
  · exact fun S hS => mk_a3 (mk_a2 (h S hS) (mk_b1 (by omega) (J S hS).1)) (mk_b1 (by omega) ((J S hS).2 z))
  · exact ⟨ss_rf a, ss_rf b, ss_ol c _, ss_ol d _⟩
  · exact (bq_o1 c (by omega) m).mpr (Or.inr rfl)
  · exact fun _ => (bq_o1 d (by omega) m).mpr (Or.inr rfl)
  · exact fun S hS => mk_a2 (h S hS) (mk_b1 (by omega) (J S hS).1)
  · exact ⟨ss_rf a, ss_rf b, ss_ol c _, ss_rf d⟩
  · exact (bq_o1 c (by omega) m).mpr (Or.inr rfl)
  · exact fun y => absurd y z
theorem yr_0 {post : SY → Prop} {m : Nat} (hm : m < 30) (h : my_p Cl a b c d) (J : ∀ S, Cl S → S 2 m)
    (K : ∀ c', my_p Cl a b c' d → mk_gr a b c d a b c' d → bt c' m = true → post (y_classes, y_methods, y_rules, y_place, a, b, c', d, y_built, y_depth, y_steps, y_outs, y_ending, y_isInterface, y_isAbstract, y_parent, y_ancestors, y_own, y_many, y_home, y_name, y_length, y_op, y_first, y_second, y_ruleKind, y_ruleClasses, y_ruleNames, y_inlined, y_number, y_newName, y_family, y_vMethod, y_vLine, y_vHeld, y_put)) :
    wpY_reach post (y_classes, y_methods, y_rules, y_place, a, b, c, d, y_built, y_depth, y_steps, y_outs, y_ending, y_isInterface, y_isAbstract, y_parent, y_ancestors, y_own, y_many, y_home, y_name, y_length, y_op, y_first, y_second, y_ruleKind, y_ruleClasses, y_ruleNames, y_inlined, y_number, y_newName, y_family, y_vMethod, y_vLine, y_vHeld, y_put) (nI m) 0 := by
  unfold wpY_reach
  dsimp only
  refine nm_e (br_t rfl (K _ ?_ ?_ ?_))
  · exact fun S hS => mk_a2 (h S hS) (mk_b1 (by omega) (J S hS))
  · exact ⟨ss_rf a, ss_rf b, ss_ol c _, ss_rf d⟩
  · exact (bq_o1 c (by omega) m).mpr (Or.inr rfl)
theorem yc_l (T : tp_p C M R y_isInterface y_ancestors y_own chn y_parent y_many y_home y_ruleKind y_ruleClasses y_ruleNames xform xname xlen y_isAbstract y_name y_length xop xcl xnu xsm xsl xca y_op y_first y_second) (hC : y_classes = nI C) (hM : y_methods = nI M) {post : SY → Prop} {k j : Nat} (hj : j < 180) (hk : k < C) {a0 c0 d0 : Int32}
    (fu : ∀ e, e < C → bt (y_ancestors e) k = true → ∃ g, fo_v M y_ancestors chn y_home y_name e (y_second j) = some g)
    (J : ∀ S, Cl S → ∀ e, e < C → S 1 e → bt (y_ancestors e) k = true → ∀ g, fo_v M y_ancestors chn y_home y_name e (y_second j) = some g → S 2 g ∧ (y_isAbstract g = 0 → S 3 g))
    (K : ∀ a c d, my_p Cl a b c d → mk_gr a0 b c0 d0 a b c d → (∀ e, e < C → bt b e = true → bt (y_ancestors e) k = true → ∀ g, fo_v M y_ancestors chn y_home y_name e (y_second j) = some g → bt c g = true ∧ (y_isAbstract g = 0 → bt d g = true)) → post (y_classes, y_methods, y_rules, y_place, a, b, c, d, y_built, y_depth, y_steps, y_outs, y_ending, y_isInterface, y_isAbstract, y_parent, y_ancestors, y_own, y_many, y_home, y_name, y_length, y_op, y_first, y_second, y_ruleKind, y_ruleClasses, y_ruleNames, y_inlined, y_number, y_newName, y_family, y_vMethod, y_vLine, y_vHeld, y_put)) :
    ∀ q i f a c d, i + q = C → q < f → my_p Cl a b c d → mk_gr a0 b c0 d0 a b c d →
      (∀ e, e < i → bt b e = true → bt (y_ancestors e) k = true → ∀ g, fo_v M y_ancestors chn y_home y_name e (y_second j) = some g → bt c g = true ∧ (y_isAbstract g = 0 → bt d g = true)) →
      wY_follow_119 post (nI j) 2 (nI k) f (nI i) y_classes y_methods y_rules y_place a b c d y_built y_depth y_steps y_outs y_ending y_isInterface y_isAbstract y_parent y_ancestors y_own y_many y_home y_name y_length y_op y_first y_second y_ruleKind y_ruleClasses y_ruleNames y_inlined y_number y_newName y_family y_vMethod y_vLine y_vHeld y_put := by
  have h10 := T.1.1
  have h30 := T.2.2.1.1
  intro q
  induction q with
  | zero =>
    intro i f a c d e hf h g z
    obtain ⟨f, rfl⟩ : ∃ q, f = q + 1 := ⟨f - 1, by omega⟩
    have e : i = C := by omega
    subst e
    rw [wY_follow_119]
    exact br_t (by rw [hC]; exact nI_le (Nat.le_refl _) (by omega)) (K a c d h g z)
  | succ q ih =>
    intro i f a c d e hf h g z
    obtain ⟨f, rfl⟩ : ∃ q, f = q + 1 := ⟨f - 1, by omega⟩
    have nx : ¬ (bt b i = true ∧ bt (y_ancestors i) k = true) → wY_follow_119 post (nI j) 2 (nI k) f (nI (i + 1)) y_classes y_methods y_rules y_place a b c d y_built y_depth y_steps y_outs y_ending y_isInterface y_isAbstract y_parent y_ancestors y_own y_many y_home y_name y_length y_op y_first y_second y_ruleKind y_ruleClasses y_ruleNames y_inlined y_number y_newName y_family y_vMethod y_vLine y_vHeld y_put := fun y =>
      ih (i + 1) f a c d (by omega) (by omega) h g (fun e he x w => by
        rcases Nat.lt_or_ge e i with v | v
        · exact z e v x w
        · have : e = i := by omega
          subst this; exact absurd ⟨x, w⟩ y)
    rw [wY_follow_119]
    refine br_f (by rw [hC]; exact nI_ge (by omega) (by omega)) (br_t rfl (yb_b (by omega) (fun y => ⟨vp_in_nI (by omega) (by decide), ?_⟩) (fun y => nm_r (nI_1 i) (nx (fun q => y q.1)))))
    rw [nI_c (show i < 10000 by omega), nI_c (show j < 10000 by omega)]
    refine yb_b (by omega) (fun w => ⟨vp_in_nI (by omega) (by decide), ?_⟩) (fun w => nm_r (nI_1 i) (nx (fun q => w q.2)))
    obtain ⟨m, em⟩ := fu i (by omega) w
    have hm := (fd_s T.1 (by omega) em).1
    refine yo_v T hC hM (by omega) ?_
    rw [em]
    refine yr_1 (m := m) (by omega) h (fun S hS => J S hS i (by omega) (h S hS 1 i y) w m em) (fun c' d' m1 m2 m3 m4 => ?_)
    refine nm_r (nI_1 i) (ih (i + 1) f a c' d' (by omega) (by omega) m1 (mk_grt g m2) (fun e he x v => ?_))
    rcases Nat.lt_or_ge e i with u | u
    · intro m em
      exact ⟨m2.2.2.1 m (z e u x v m em).1, fun t => m2.2.2.2 m ((z e u x v m em).2 t)⟩
    · have : e = i := by omega
      subst this
      intro m' em'
      rw [em] at em'
      have : m = m' := by simpa using em'
      subst this; exact ⟨m3, m4⟩
/-- following a line -/
theorem yl_v (T : tp_p C M R y_isInterface y_ancestors y_own chn y_parent y_many y_home y_ruleKind y_ruleClasses y_ruleNames xform xname xlen y_isAbstract y_name y_length xop xcl xnu xsm xsl xca y_op y_first y_second) (hC : y_classes = nI C) (hM : y_methods = nI M) {post : SY → Prop} {j o : Nat} (hj : j < 180) (ho : y_op j = nI o) (o6 : o < 6)
    (hcl : 1 ≤ o → o ≤ 4 → ∃ k, k < C ∧ y_first j = nI k) (hfo : o = 2 ∨ o = 3 → ∃ g, fo_v M y_ancestors chn y_home y_name (hq_t (y_first j)) (y_second j) = some g) (h : my_p Cl a b c d)
    (J : ∀ S, Cl S → ef_p C y_ancestors (fun m => y_isAbstract m = 0) (fo_v M y_ancestors chn y_home y_name) (y_op j) (y_first j) (y_second j) (¬ y_inlined j < 0) S)
    (K : ∀ a' b' c' d', my_p Cl a' b' c' d' → mk_gr a b c d a' b' c' d' → ef_p C y_ancestors (fun m => y_isAbstract m = 0) (fo_v M y_ancestors chn y_home y_name) (y_op j) (y_first j) (y_second j) (¬ y_inlined j < 0) (mk_s a' b' c' d') → post (y_classes, y_methods, y_rules, y_place, a', b', c', d', y_built, y_depth, y_steps, y_outs, y_ending, y_isInterface, y_isAbstract, y_parent, y_ancestors, y_own, y_many, y_home, y_name, y_length, y_op, y_first, y_second, y_ruleKind, y_ruleClasses, y_ruleNames, y_inlined, y_number, y_newName, y_family, y_vMethod, y_vLine, y_vHeld, y_put)) :
    wpY_follow post (y_classes, y_methods, y_rules, y_place, a, b, c, d, y_built, y_depth, y_steps, y_outs, y_ending, y_isInterface, y_isAbstract, y_parent, y_ancestors, y_own, y_many, y_home, y_name, y_length, y_op, y_first, y_second, y_ruleKind, y_ruleClasses, y_ruleNames, y_inlined, y_number, y_newName, y_family, y_vMethod, y_vLine, y_vHeld, y_put) (nI j) := by
  have h10 := T.1.1
  have h30 := T.2.2.1.1
  have ne : ∀ p, p < 6 → ¬ o = p → ¬ nI o = nI p := fun p hp z y => z ((nI_eq (by omega) (by omega)).mp y)
  unfold wpY_follow
  dsimp only
  rw [nI_c (by omega)]
  refine ⟨vp_in_nI hj (by decide), nm_r ho ⟨vp_in_nI hj (by decide), nm_e ?_⟩⟩
  rw [ho] at J K
  refine pk_eq o 0 (fun z => ?_) (fun z0 => pk_eq o 5 (fun z => ?_) (fun z5 => ?_))
  · subst z
    exact K a b c d h (mk_gr0 a b c d) ⟨fun y => absurd y (by decide), fun y => absurd y (by decide), fun y => absurd y (by decide), fun y => absurd y (by decide)⟩
  · subst z
    exact K a b c d h (mk_gr0 a b c d) ⟨fun y => absurd y (by decide), fun y => absurd y (by decide), fun y => absurd y (by decide), fun y => absurd y (by decide)⟩
  · obtain ⟨k, hk, ek⟩ := hcl (by omega) (by omega)
    have hke : hq_t (nI k) = k := hq_e (by omega)
    rw [ek] at J K hfo ⊢
    rw [hke] at hfo
    have go : ¬ (o = 3 ∧ ¬ y_inlined j < 0) → wY_follow_38 post (nI j) (nI o) (nI k) y_classes y_methods y_rules y_place a b c d y_built y_depth y_steps y_outs y_ending y_isInterface y_isAbstract y_parent y_ancestors y_own y_many y_home y_name y_length y_op y_first y_second y_ruleKind y_ruleClasses y_ruleNames y_inlined y_number y_newName y_family y_vMethod y_vLine y_vHeld y_put := by
      intro ni
      have JN : ∀ S, Cl S → S 0 k := fun S hS => by
        obtain ⟨j1, j2, j3, j4⟩ := J S hS
        rw [hke] at j1 j2 j3 j4
        rcases (by omega : o = 1 ∨ o = 2 ∨ o = 3 ∨ o = 4) with q | q | q | q
        · subst q; exact (j1 rfl).1
        · subst q; exact (j4 rfl).1
        · subst q; exact (j3 rfl (fun y => ni ⟨rfl, y⟩)).1
        · subst q; exact j2 rfl
      have m1 : my_p Cl (a ||| ((1 : Int32) <<< (nI k &&& 31))) b c d := fun S hS => mk_a0 (h S hS) (mk_b1 (by omega) (JN S hS))
      have m2 : mk_gr a b c d (a ||| ((1 : Int32) <<< (nI k &&& 31))) b c d := ⟨ss_ol a _, ss_rf b, ss_rf c, ss_rf d⟩
      have m3 : bt (a ||| ((1 : Int32) <<< (nI k &&& 31))) k = true := (bq_o1 a (by omega) k).mpr (Or.inr rfl)
      unfold wY_follow_38
      refine nm_e ?_
      generalize a ||| ((1 : Int32) <<< (nI k &&& 31)) = a1 at m1 m2 m3 ⊢
      have KK : ∀ b' c' d', my_p Cl a1 b' c' d' → mk_gr a1 b c d a1 b' c' d' → ef_p C y_ancestors (fun m => y_isAbstract m = 0) (fo_v M y_ancestors chn y_home y_name) (nI o) (nI k) (y_second j) (¬ y_inlined j < 0) (mk_s a1 b' c' d') → post (y_classes, y_methods, y_rules, y_place, a1, b', c', d', y_built, y_depth, y_steps, y_outs, y_ending, y_isInterface, y_isAbstract, y_parent, y_ancestors, y_own, y_many, y_home, y_name, y_length, y_op, y_first, y_second, y_ruleKind, y_ruleClasses, y_ruleNames, y_inlined, y_number, y_newName, y_family, y_vMethod, y_vLine, y_vHeld, y_put) :=
        fun b' c' d' p1 p2 p3 => K a1 b' c' d' p1 (mk_grt m2 p2) p3
      refine pk_eq o 1 (fun z => nm_e ?_) (fun z1 => ?_)
      · subst z
        unfold wY_follow_67
        refine br_f (by decide) (br_t rfl (KK _ c d ?_ ?_ ?_))
        · exact fun S hS => mk_a1 (m1 S hS) (mk_b1 (by omega) (by have := ((J S hS).1 rfl).2; rw [hke] at this; exact this))
        · exact ⟨ss_rf _, ss_ol b _, ss_rf c, ss_rf d⟩
        · exact ⟨fun _ => by rw [hke]; exact ⟨m3, (bq_o1 b (by omega) k).mpr (Or.inr rfl)⟩, fun y => absurd y (by decide), fun y => absurd y (by decide), fun y => absurd y (by decide)⟩
      · unfold wY_follow_67
        refine pk_eq o 4 (fun z => ?_) (fun z4 => pk_eq o 1 (fun z => absurd z z1) (fun _ => ⟨vp_in_nI hj (by decide), ?_⟩))
        · subst z
          exact KK b c d m1 (mk_gr0 _ _ _ _) ⟨fun y => absurd y (by decide), fun _ => by rw [hke]; exact m3, fun y => absurd y (by decide), fun y => absurd y (by decide)⟩
        · rw [nI_c (show j < 10000 by omega)]
          refine br_c (fun y => ⟨vp_in_nI hj (by decide), ?_⟩) (fun y => ?_)
          · obtain ⟨g, eg⟩ := hfo (by omega)
            have gM := (fd_s T.1 hk eg).1
            refine yo_v T hC hM hk ?_
            rw [eg]
            refine pk_eq o 3 (fun z => ?_) (fun z3 => ?_)
            · subst z
              unfold wY_follow_113
              have j3 : ∀ S, Cl S → S 2 g ∧ (y_isAbstract g = 0 → S 3 g) := fun S hS => by
                have := ((J S hS).2.2.1 rfl (fun x => x y)).2
                rw [hke] at this
                exact this g eg
              refine yr_1 (m := g) (by omega) m1 j3 (fun c' d' p1 p2 p3 p4 => ⟨1, ?_⟩)
              have fin := KK b c' d' p1 p2 ⟨fun y => absurd y (by decide), fun y => absurd y (by decide), fun _ _ => by
                rw [hke]
                refine ⟨m3, fun f ef => ?_⟩
                rw [eg] at ef
                have : g = f := by simpa using ef
                subst this; exact ⟨p3, p4⟩, fun y => absurd y (by decide)⟩
              rw [wY_follow_119]
              exact br_c (fun _ => fin) (fun _ => br_f (by decide) fin)
            · have o2 : o = 2 := by omega
              subst o2
              unfold wY_follow_113
              have j4 : ∀ S, Cl S → (∀ f, fo_v M y_ancestors chn y_home y_name k (y_second j) = some f → S 2 f) ∧ ∀ e, e < C → S 1 e → bt (y_ancestors e) k = true → ∀ g, fo_v M y_ancestors chn y_home y_name e (y_second j) = some g → S 2 g ∧ (y_isAbstract g = 0 → S 3 g) := fun S hS => by
                have := ((J S hS).2.2.2 rfl).2 (fun x => x y)
                rw [hke] at this
                exact this
              refine yr_0 (m := g) (by omega) m1 (fun S hS => (j4 S hS).1 g eg) (fun c' p1 p2 p3 => ⟨C + 1, ?_⟩)
              refine yc_l T hC hM hj hk (fun e he x => fd_up T.1 hk he eg x) (fun S hS => (j4 S hS).2) (fun a' c'' d'' r1 r2 r3 => ?_) C 0 (C + 1) a1 c' d (by omega) (by omega) p1 (mk_gr0 _ _ _ _) (fun e he => by omega)
              refine K a' b c'' d'' r1 (mk_grt m2 (mk_grt p2 r2)) ⟨fun y => absurd y (by decide), fun y => absurd y (by decide), fun y => absurd y (by decide), fun _ => ?_⟩
              rw [hke]
              refine ⟨r2.1 k m3, fun _ => ⟨fun f ef => ?_, r3⟩⟩
              rw [eg] at ef
              have : g = f := by simpa using ef
              subst this; exact r2.2.2.1 g p3
          · have o2 : o = 2 := by
              rcases (by omega : o = 2 ∨ o = 3) with q | q
              · exact q
              · exact absurd ⟨q, y⟩ ni
            subst o2
            exact KK b c d m1 (mk_gr0 _ _ _ _) ⟨fun y => absurd y (by decide), fun y => absurd y (by decide), fun y => absurd y (by decide), fun _ => by rw [hke]; exact ⟨m3, fun x => absurd y x⟩⟩
    refine pk_eq o 3 (fun z => ⟨vp_in_nI hj (by decide), br_c (fun y => go (fun q => q.2 y)) (fun y => ?_)⟩) (fun z => go (fun q => z q.1))
    subst z
    exact K a b c d h (mk_gr0 a b c d) ⟨fun y => absurd y (by decide), fun y => absurd y (by decide), fun _ x => absurd y x, fun y => absurd y (by decide)⟩
end
end
section
/-! ===== Y's rounds of marking ===== -/
section
variable {y_classes y_methods y_rules y_place y_named y_made y_namedMethods y_live y_built y_depth y_steps y_outs y_ending : Int32} {y_isInterface y_isAbstract y_parent y_ancestors y_own y_many y_home y_name y_length y_op y_first y_second y_ruleKind y_ruleClasses y_ruleNames y_inlined y_number y_newName y_family y_vMethod y_vLine y_vHeld y_put : Nat → Int32} {chn xform xname xlen xop xcl xnu xsm xsl xca : Nat → Int32} {C M R : Nat} {a b c d : Int32}
theorem yl_c (T : tp_p C M R y_isInterface y_ancestors y_own chn y_parent y_many y_home y_ruleKind y_ruleClasses y_ruleNames xform xname xlen y_isAbstract y_name y_length xop xcl xnu xsm xsl xca y_op y_first y_second) (NF : ff_v C M y_isInterface y_ancestors chn y_home y_isAbstract y_name y_length y_op y_first y_second = none) {m k : Nat} (hm : m < M) (hk : k < hq_t (y_length m)) :
    ∃ o, o < 6 ∧ y_op (6 * m + k) = nI o ∧ (1 ≤ o → o ≤ 4 → ∃ q, q < C ∧ y_first (6 * m + k) = nI q) ∧ (o = 2 ∨ o = 3 → ∃ g, fo_v M y_ancestors chn y_home y_name (hq_t (y_first (6 * m + k))) (y_second (6 * m + k)) = some g) := by
  obtain ⟨l1, l6⟩ := ty_len T hm
  obtain ⟨o, o6, _, e2, e3, _⟩ := T.2.2.2.2.2.1 m k hm hk
  have z := ff_n NF hm (by omega) hk
  refine ⟨o, o6, e2, fun h1 h4 => ?_, fun h => ?_⟩
  · obtain ⟨q, q10, _, f2⟩ := e3 ⟨h1, h4⟩
    have no : ¬ (y_op (6 * m + k) = 0 ∨ y_op (6 * m + k) = 5) := by
      rw [e2]
      rintro (y | y)
      · have := (nI_eq (a := o) (b := 0) (by omega) (by omega)).mp y; omega
      · have := (nI_eq (a := o) (b := 5) (by omega) (by omega)).mp y; omega
    have := fl_c z no
    rw [f2, hq_e (by omega)] at this
    exact ⟨q, this, f2⟩
  · have o23 : y_op (6 * m + k) = 2 ∨ y_op (6 * m + k) = 3 := by
      rw [e2]
      rcases h with h | h
      · subst h; exact Or.inl rfl
      · subst h; exact Or.inr rfl
    obtain ⟨g, eg, _⟩ := fl_f z o23
    exact ⟨g, eg⟩
theorem y2_l (T : tp_p C M R y_isInterface y_ancestors y_own chn y_parent y_many y_home y_ruleKind y_ruleClasses y_ruleNames xform xname xlen y_isAbstract y_name y_length xop xcl xnu xsm xsl xca y_op y_first y_second) (NF : ff_v C M y_isInterface y_ancestors chn y_home y_isAbstract y_name y_length y_op y_first y_second = none) (hC : y_classes = nI C) (hM : y_methods = nI M) {post : SY → Prop} {J64 : Int32 → Int32 → Int32 → Int32 → Int32 → Int32 → Int32 → Int32 → Int32 → Int32 → Int32 → Int32 → Int32 → Int32 → Int32 → Int32 → Int32 → (Nat → Int32) → (Nat → Int32) → (Nat → Int32) → (Nat → Int32) → (Nat → Int32) → (Nat → Int32) → (Nat → Int32) → (Nat → Int32) → (Nat → Int32) → (Nat → Int32) → (Nat → Int32) → (Nat → Int32) → (Nat → Int32) → (Nat → Int32) → (Nat → Int32) → (Nat → Int32) → (Nat → Int32) → (Nat → Int32) → (Nat → Int32) → (Nat → Int32) → (Nat → Int32) → (Nat → Int32) → (Nat → Int32) → Prop} {a0 b0 c0 d0 : Int32} (P : Int32 → Prop) (hP : ∀ a a', ss_le a a' → P a → P a')
    (K : ∀ a b c d, my_p (cl_ok C M R y_ancestors y_home y_name y_ruleKind y_ruleClasses y_ruleNames (fun m => y_isAbstract m = 0) (ey_p C (fun m => y_isAbstract m = 0) y_ancestors (fo_v M y_ancestors chn y_home y_name) y_length y_op y_first y_second y_inlined)) a b c d → mk_gr a0 b0 c0 d0 a b c d → P a → ((a = a0 ∧ b = b0 ∧ c = c0 ∧ d = d0) → ∀ j, j < 6 * M → bt d0 (j / 6) = true → j % 6 < hq_t (y_length (j / 6)) → ef_p C y_ancestors (fun m => y_isAbstract m = 0) (fo_v M y_ancestors chn y_home y_name) (y_op j) (y_first j) (y_second j) (¬ y_inlined j < 0) (mk_s a0 b0 c0 d0)) → J64 a0 b0 c0 d0 y_classes y_methods y_rules y_place a b c d y_built y_depth y_steps y_outs y_ending y_isInterface y_isAbstract y_parent y_ancestors y_own y_many y_home y_name y_length y_op y_first y_second y_ruleKind y_ruleClasses y_ruleNames y_inlined y_number y_newName y_family y_vMethod y_vLine y_vHeld y_put) :
    ∀ q i f a b c d, i + q = 6 * M → q < f → my_p (cl_ok C M R y_ancestors y_home y_name y_ruleKind y_ruleClasses y_ruleNames (fun m => y_isAbstract m = 0) (ey_p C (fun m => y_isAbstract m = 0) y_ancestors (fo_v M y_ancestors chn y_home y_name) y_length y_op y_first y_second y_inlined)) a b c d → mk_gr a0 b0 c0 d0 a b c d → P a →
      ((a = a0 ∧ b = b0 ∧ c = c0 ∧ d = d0) → ∀ j, j < i → bt d0 (j / 6) = true → j % 6 < hq_t (y_length (j / 6)) → ef_p C y_ancestors (fun m => y_isAbstract m = 0) (fo_v M y_ancestors chn y_home y_name) (y_op j) (y_first j) (y_second j) (¬ y_inlined j < 0) (mk_s a0 b0 c0 d0)) →
      wY_mark_215 post J64 a0 b0 c0 d0 f (nI i) y_classes y_methods y_rules y_place a b c d y_built y_depth y_steps y_outs y_ending y_isInterface y_isAbstract y_parent y_ancestors y_own y_many y_home y_name y_length y_op y_first y_second y_ruleKind y_ruleClasses y_ruleNames y_inlined y_number y_newName y_family y_vMethod y_vLine y_vHeld y_put := by
  have h30 := T.2.2.1.1
  intro q
  induction q with
  | zero =>
    intro i f a b c d e hf h g p z
    obtain ⟨f, rfl⟩ : ∃ q, f = q + 1 := ⟨f - 1, by omega⟩
    have e : i = 6 * M := by omega
    subst e
    rw [wY_mark_215]
    exact br_t (by rw [hM, nI_m6]; exact nI_le (Nat.le_refl _) (by omega)) (K a b c d h g p z)
  | succ q ih =>
    intro i f a b c d e hf h g p z
    obtain ⟨f, rfl⟩ : ∃ q, f = q + 1 := ⟨f - 1, by omega⟩
    obtain ⟨m, k, k6, rfl⟩ : ∃ m k, k < 6 ∧ i = 6 * m + k := ⟨i / 6, i % 6, by omega, by omega⟩
    have hm : m < M := by omega
    have e1 : (6 * m + k) / 6 = m := by omega
    have e2 : (6 * m + k) % 6 = k := by omega
    obtain ⟨l1, l6⟩ := ty_len T hm
    have nx : ¬ (bt d m = true ∧ k < hq_t (y_length m)) → wY_mark_215 post J64 a0 b0 c0 d0 f (nI (6 * m + k + 1)) y_classes y_methods y_rules y_place a b c d y_built y_depth y_steps y_outs y_ending y_isInterface y_isAbstract y_parent y_ancestors y_own y_many y_home y_name y_length y_op y_first y_second y_ruleKind y_ruleClasses y_ruleNames y_inlined y_number y_newName y_family y_vMethod y_vLine y_vHeld y_put := fun y =>
      ih _ f a b c d (by omega) (by omega) h g p (fun s j hj x w => by
        rcases Nat.lt_or_ge j (6 * m + k) with v | v
        · exact z s j v x w
        · have : j = 6 * m + k := by omega
          subst this
          rw [e1] at x w
          rw [e2] at w
          rw [s.2.2.2] at y
          exact absurd ⟨x, w⟩ y)
    rw [wY_mark_215]
    refine br_f (by rw [hM, nI_m6]; exact nI_ge (by omega) (by omega)) ⟨by decide, ?_⟩
    rw [nI_r6 (by omega), nI_d6 (by omega), e1, e2, nI_c (by omega), l1]
    refine yb_b (by omega) (fun y => ⟨by decide, by decide, vp_in_nI (by omega) (by decide), pk_le (hq_t (y_length m)) k (fun x => nm_r (nI_1 _) (nx (fun q => by omega))) (fun kl => ?_)⟩) (fun y => nm_r (nI_1 _) (nx (fun q => y q.1)))
    obtain ⟨o, o6, ho, g1, g2⟩ := yl_c T NF hm kl
    refine yl_v T hC hM (by omega) ho o6 g1 g2 h (fun S hS => hS.2.2.2 m hm (h S hS 3 m y) k kl) (fun a' b' c' d' m1 m2 m3 => ?_)
    refine nm_r (nI_1 _) (ih _ f a' b' c' d' (by omega) (by omega) m1 (mk_grt g m2) (hP a a' m2.1 p) (fun s j hj x w => ?_))
    obtain ⟨s1, s2, s3, s4⟩ := s
    subst s1 s2 s3 s4
    rcases Nat.lt_or_ge j (6 * m + k) with v | v
    · exact z (mk_gre g m2) j v x w
    · have : j = 6 * m + k := by omega
      subst this; exact m3
theorem y1_c (T : tp_p C M R y_isInterface y_ancestors y_own chn y_parent y_many y_home y_ruleKind y_ruleClasses y_ruleNames xform xname xlen y_isAbstract y_name y_length xop xcl xnu xsm xsl xca y_op y_first y_second) (NF : ff_v C M y_isInterface y_ancestors chn y_home y_isAbstract y_name y_length y_op y_first y_second = none) (hC : y_classes = nI C) (hM : y_methods = nI M) {post : SY → Prop} {J64 : Int32 → Int32 → Int32 → Int32 → Int32 → Int32 → Int32 → Int32 → Int32 → Int32 → Int32 → Int32 → Int32 → Int32 → Int32 → Int32 → Int32 → (Nat → Int32) → (Nat → Int32) → (Nat → Int32) → (Nat → Int32) → (Nat → Int32) → (Nat → Int32) → (Nat → Int32) → (Nat → Int32) → (Nat → Int32) → (Nat → Int32) → (Nat → Int32) → (Nat → Int32) → (Nat → Int32) → (Nat → Int32) → (Nat → Int32) → (Nat → Int32) → (Nat → Int32) → (Nat → Int32) → (Nat → Int32) → (Nat → Int32) → (Nat → Int32) → (Nat → Int32) → (Nat → Int32) → Prop} {a0 : Int32}
    (K : ∀ a' b' c' d', my_p (cl_ok C M R y_ancestors y_home y_name y_ruleKind y_ruleClasses y_ruleNames (fun m => y_isAbstract m = 0) (ey_p C (fun m => y_isAbstract m = 0) y_ancestors (fo_v M y_ancestors chn y_home y_name) y_length y_op y_first y_second y_inlined)) a' b' c' d' → mk_gr a0 b c d a' b' c' d' → (fun a => (∀ m, m < M → bt c m = true → bt a (hq_t (y_home m)) = true) ∧ ∀ k, k < C → bt a0 k = true → ∀ j, bt (y_ancestors k) j = true → bt a j = true) a' →
      ((a' = a0 ∧ b' = b ∧ c' = c ∧ d' = d) → ∀ j, j < 6 * M → bt d (j / 6) = true → j % 6 < hq_t (y_length (j / 6)) → ef_p C y_ancestors (fun m => y_isAbstract m = 0) (fo_v M y_ancestors chn y_home y_name) (y_op j) (y_first j) (y_second j) (¬ y_inlined j < 0) (mk_s a0 b c d)) → J64 a0 b c d y_classes y_methods y_rules y_place a' b' c' d' y_built y_depth y_steps y_outs y_ending y_isInterface y_isAbstract y_parent y_ancestors y_own y_many y_home y_name y_length y_op y_first y_second y_ruleKind y_ruleClasses y_ruleNames y_inlined y_number y_newName y_family y_vMethod y_vLine y_vHeld y_put) :
    ∀ q i f a, i + q = C → q < f → my_p (cl_ok C M R y_ancestors y_home y_name y_ruleKind y_ruleClasses y_ruleNames (fun m => y_isAbstract m = 0) (ey_p C (fun m => y_isAbstract m = 0) y_ancestors (fo_v M y_ancestors chn y_home y_name) y_length y_op y_first y_second y_inlined)) a b c d → mk_gr a0 b c d a b c d → (∀ m, m < M → bt c m = true → bt a (hq_t (y_home m)) = true) → (∀ k, k < i → bt a0 k = true → ∀ j, bt (y_ancestors k) j = true → bt a j = true) →
      wY_mark_169 post J64 a0 b c d y_classes y_methods y_rules y_place b c d y_built y_depth y_steps y_outs y_ending y_isInterface y_isAbstract y_parent y_ancestors y_own y_many y_home y_name y_length y_op y_first y_second y_ruleKind y_ruleClasses y_ruleNames y_inlined y_number y_newName y_family y_vMethod y_vLine y_vHeld y_put f (nI i) a := by
  have h10 := T.1.1
  intro q
  induction q with
  | zero =>
    intro i f a e hf h g p z
    obtain ⟨f, rfl⟩ : ∃ q, f = q + 1 := ⟨f - 1, by omega⟩
    have e : i = C := by omega
    subst e
    rw [wY_mark_169]
    refine br_t (by rw [hC]; exact nI_le (Nat.le_refl _) (by omega)) ⟨6 * M + 1, ?_⟩
    exact y2_l T NF hC hM _ (fun a a' s p => ⟨fun m hm x => s _ (p.1 m hm x), fun k hk x j w => s _ (p.2 k hk x j w)⟩) K (6 * M) 0 _ a b c d (by omega) (by omega) h g ⟨p, z⟩ (fun _ j hj => by omega)
  | succ q ih =>
    intro i f a e hf h g p z
    obtain ⟨f, rfl⟩ : ∃ q, f = q + 1 := ⟨f - 1, by omega⟩
    rw [wY_mark_169]
    refine br_f (by rw [hC]; exact nI_ge (by omega) (by omega)) (yb_b (by omega) (fun y => ⟨vp_in_nI (by omega) (by decide), ?_⟩) (fun y => ?_))
    · rw [nI_c (by omega)]
      refine nm_e (nm_r (nI_1 i) (ih (i + 1) f _ (by omega) (by omega) (fun S hS => mk_a0 (h S hS) (fun j w => hS.2.2.1 i (by omega) (h S hS 0 i y) j w)) (mk_grt g ⟨ss_ol a _, ss_rf b, ss_rf c, ss_rf d⟩)
        (fun m hm x => ss_ol a _ _ (p m hm x)) (fun k hk x j w => ?_)))
      rcases Nat.lt_or_ge k i with v | v
      · exact ss_ol a _ _ (z k v x j w)
      · have : k = i := by omega
        subst this; exact ss_or a _ _ w
    · refine nm_r (nI_1 i) (ih (i + 1) f a (by omega) (by omega) h g p (fun k hk x j w => ?_))
      rcases Nat.lt_or_ge k i with v | v
      · exact z k v x j w
      · have : k = i := by omega
        subst this; exact absurd (g.1 _ x) y
theorem y1_m (T : tp_p C M R y_isInterface y_ancestors y_own chn y_parent y_many y_home y_ruleKind y_ruleClasses y_ruleNames xform xname xlen y_isAbstract y_name y_length xop xcl xnu xsm xsl xca y_op y_first y_second) (NF : ff_v C M y_isInterface y_ancestors chn y_home y_isAbstract y_name y_length y_op y_first y_second = none) (hC : y_classes = nI C) (hM : y_methods = nI M) {post : SY → Prop} {J64 : Int32 → Int32 → Int32 → Int32 → Int32 → Int32 → Int32 → Int32 → Int32 → Int32 → Int32 → Int32 → Int32 → Int32 → Int32 → Int32 → Int32 → (Nat → Int32) → (Nat → Int32) → (Nat → Int32) → (Nat → Int32) → (Nat → Int32) → (Nat → Int32) → (Nat → Int32) → (Nat → Int32) → (Nat → Int32) → (Nat → Int32) → (Nat → Int32) → (Nat → Int32) → (Nat → Int32) → (Nat → Int32) → (Nat → Int32) → (Nat → Int32) → (Nat → Int32) → (Nat → Int32) → (Nat → Int32) → (Nat → Int32) → (Nat → Int32) → (Nat → Int32) → (Nat → Int32) → Prop} {a0 : Int32}
    (K : ∀ a' b' c' d', my_p (cl_ok C M R y_ancestors y_home y_name y_ruleKind y_ruleClasses y_ruleNames (fun m => y_isAbstract m = 0) (ey_p C (fun m => y_isAbstract m = 0) y_ancestors (fo_v M y_ancestors chn y_home y_name) y_length y_op y_first y_second y_inlined)) a' b' c' d' → mk_gr a0 b c d a' b' c' d' → (fun a => (∀ m, m < M → bt c m = true → bt a (hq_t (y_home m)) = true) ∧ ∀ k, k < C → bt a0 k = true → ∀ j, bt (y_ancestors k) j = true → bt a j = true) a' →
      ((a' = a0 ∧ b' = b ∧ c' = c ∧ d' = d) → ∀ j, j < 6 * M → bt d (j / 6) = true → j % 6 < hq_t (y_length (j / 6)) → ef_p C y_ancestors (fun m => y_isAbstract m = 0) (fo_v M y_ancestors chn y_home y_name) (y_op j) (y_first j) (y_second j) (¬ y_inlined j < 0) (mk_s a0 b c d)) → J64 a0 b c d y_classes y_methods y_rules y_place a' b' c' d' y_built y_depth y_steps y_outs y_ending y_isInterface y_isAbstract y_parent y_ancestors y_own y_many y_home y_name y_length y_op y_first y_second y_ruleKind y_ruleClasses y_ruleNames y_inlined y_number y_newName y_family y_vMethod y_vLine y_vHeld y_put) :
    ∀ q i f a, i + q = M → q < f → my_p (cl_ok C M R y_ancestors y_home y_name y_ruleKind y_ruleClasses y_ruleNames (fun m => y_isAbstract m = 0) (ey_p C (fun m => y_isAbstract m = 0) y_ancestors (fo_v M y_ancestors chn y_home y_name) y_length y_op y_first y_second y_inlined)) a b c d → mk_gr a0 b c d a b c d → (∀ m, m < i → bt c m = true → bt a (hq_t (y_home m)) = true) →
      wY_mark_121 post J64 a0 b c d y_classes y_methods y_rules y_place b c d y_built y_depth y_steps y_outs y_ending y_isInterface y_isAbstract y_parent y_ancestors y_own y_many y_home y_name y_length y_op y_first y_second y_ruleKind y_ruleClasses y_ruleNames y_inlined y_number y_newName y_family y_vMethod y_vLine y_vHeld y_put f (nI i) a := by
  have h30 := T.2.2.1.1
  have h10 := T.1.1
  intro q
  induction q with
  | zero =>
    intro i f a e hf h g p
    obtain ⟨f, rfl⟩ : ∃ q, f = q + 1 := ⟨f - 1, by omega⟩
    have e : i = M := by omega
    subst e
    rw [wY_mark_121]
    refine br_t (by rw [hM]; exact nI_le (Nat.le_refl _) (by omega)) ⟨C + 1, ?_⟩
    exact y1_c T NF hC hM K C 0 _ a (by omega) (by omega) h g p (fun k hk => by omega)
  | succ q ih =>
    intro i f a e hf h g p
    obtain ⟨f, rfl⟩ : ∃ q, f = q + 1 := ⟨f - 1, by omega⟩
    obtain ⟨o1, o2⟩ := mh_h T.2.2.1 h10 (m := i) (by omega)
    rw [wY_mark_121]
    refine br_f (by rw [hM]; exact nI_ge (by omega) (by omega)) (yb_b (by omega) (fun y => ⟨vp_in_nI (by omega) (by decide), ?_⟩) (fun y => ?_))
    · rw [nI_c (by omega), o1]
      refine nm_e (nm_r (nI_1 i) (ih (i + 1) f _ (by omega) (by omega) (fun S hS => mk_a0 (h S hS) (mk_b1 (by omega) (hS.2.1 i (by omega) (h S hS 2 i y)))) (mk_grt g ⟨ss_ol a _, ss_rf b, ss_rf c, ss_rf d⟩) (fun m hm x => ?_)))
      rcases Nat.lt_or_ge m i with v | v
      · exact ss_ol a _ _ (p m v x)
      · have : m = i := by omega
        subst this; exact (bq_o1 a (by omega) _).mpr (Or.inr rfl)
    · refine nm_r (nI_1 i) (ih (i + 1) f a (by omega) (by omega) h g (fun m hm x => ?_))
      rcases Nat.lt_or_ge m i with v | v
      · exact p m v x
      · have : m = i := by omega
        subst this; exact absurd x y
/-- Y's rounds -/
theorem y6_l (T : tp_p C M R y_isInterface y_ancestors y_own chn y_parent y_many y_home y_ruleKind y_ruleClasses y_ruleNames xform xname xlen y_isAbstract y_name y_length xop xcl xnu xsm xsl xca y_op y_first y_second) (NF : ff_v C M y_isInterface y_ancestors chn y_home y_isAbstract y_name y_length y_op y_first y_second = none) (hC : y_classes = nI C) (hM : y_methods = nI M) {post : SY → Prop}
    (K : ∀ a b c d, my_p (cl_ok C M R y_ancestors y_home y_name y_ruleKind y_ruleClasses y_ruleNames (fun m => y_isAbstract m = 0) (ey_p C (fun m => y_isAbstract m = 0) y_ancestors (fo_v M y_ancestors chn y_home y_name) y_length y_op y_first y_second y_inlined)) a b c d → cl_ok C M R y_ancestors y_home y_name y_ruleKind y_ruleClasses y_ruleNames (fun m => y_isAbstract m = 0) (ey_p C (fun m => y_isAbstract m = 0) y_ancestors (fo_v M y_ancestors chn y_home y_name) y_length y_op y_first y_second y_inlined) (mk_s a b c d) → post (y_classes, y_methods, y_rules, y_place, a, b, c, d, y_built, y_depth, y_steps, y_outs, y_ending, y_isInterface, y_isAbstract, y_parent, y_ancestors, y_own, y_many, y_home, y_name, y_length, y_op, y_first, y_second, y_ruleKind, y_ruleClasses, y_ruleNames, y_inlined, y_number, y_newName, y_family, y_vMethod, y_vLine, y_vHeld, y_put)) :
    ∀ q f x1 x2 x3 x4 a b c d, pc_4 a b c d + q = 128 → q + 1 < f → my_p (cl_ok C M R y_ancestors y_home y_name y_ruleKind y_ruleClasses y_ruleNames (fun m => y_isAbstract m = 0) (ey_p C (fun m => y_isAbstract m = 0) y_ancestors (fo_v M y_ancestors chn y_home y_name) y_length y_op y_first y_second y_inlined)) a b c d → (∀ r, r < R → y_ruleKind r = 0 → rt_p C M y_home y_name y_ruleClasses y_ruleNames (fun m => y_isAbstract m = 0) r a c d) → ¬ (x1 = a ∧ x2 = b ∧ x3 = c ∧ x4 = d) → wY_mark_64 post f x1 x2 x3 x4 y_classes y_methods y_rules y_place a b c d y_built y_depth y_steps y_outs y_ending y_isInterface y_isAbstract y_parent y_ancestors y_own y_many y_home y_name y_length y_op y_first y_second y_ruleKind y_ruleClasses y_ruleNames y_inlined y_number y_newName y_family y_vMethod y_vLine y_vHeld y_put := by
  intro q
  induction q using Nat.strongRecOn with
  | ind q ih =>
    intro f x1 x2 x3 x4 a b c d e hf h t ne
    obtain ⟨f, rfl⟩ : ∃ q, f = q + 1 := ⟨f - 1, by omega⟩
    have go : wY_mark_97 post (wY_mark_64 post f) y_classes y_methods y_rules y_place a b c d y_built y_depth y_steps y_outs y_ending y_isInterface y_isAbstract y_parent y_ancestors y_own y_many y_home y_name y_length y_op y_first y_second y_ruleKind y_ruleClasses y_ruleNames y_inlined y_number y_newName y_family y_vMethod y_vLine y_vHeld y_put := by
      unfold wY_mark_97
      refine ⟨M + 1, y1_m T NF hC hM (a0 := a) (fun a' b' c' d' m1 m2 m3 m4 => ?_) M 0 (M + 1) a (by omega) (by omega) h (mk_gr0 a b c d) (fun m hm => by omega)⟩
      by_cases s : a' = a ∧ b' = b ∧ c' = c ∧ d' = d
      · have m4 := m4 s
        obtain ⟨s1, s2, s3, s4⟩ := s
        subst s1 s2 s3 s4
        obtain ⟨f, rfl⟩ : ∃ q, f = q + 1 := ⟨f - 1, by omega⟩
        rw [wY_mark_64]
        refine br_t rfl (br_t rfl (br_t rfl (br_t rfl (K a' b' c' d' m1 ⟨t, m3.1, m3.2, fun m hm x k hk => ?_⟩))))
        have l6 := (ty_len T hm).2
        have e1 : (6 * m + k) / 6 = m := by omega
        have e2 : (6 * m + k) % 6 = k := by omega
        exact m4 (6 * m + k) (by omega) (by rw [e1]; exact x) (by rw [e1, e2]; exact hk)
      · have lt := pc_4l m2.1 m2.2.1 m2.2.2.1 m2.2.2.2 (fun z => s ⟨z.1.symm, z.2.1.symm, z.2.2.1.symm, z.2.2.2.symm⟩)
        have mx := pc_4m a' b' c' d'
        exact ih (128 - pc_4 a' b' c' d') (by omega) f a b c d a' b' c' d' (by omega) (by omega) m1 (fun r hr y => rt_g (t r hr y) m2) (fun z => s ⟨z.1.symm, z.2.1.symm, z.2.2.1.symm, z.2.2.2.symm⟩)
    rw [wY_mark_64]
    exact br_c (fun e1 => br_c (fun e2 => br_c (fun e3 => br_c (fun e4 => absurd ⟨e1, e2, e3, e4⟩ ne) (fun _ => go)) (fun _ => go)) (fun _ => go)) (fun _ => go)
end
end
section
/-! ===== rules in Y; Y's marking as a whole ===== -/
section
variable {y_classes y_methods y_rules y_place y_named y_made y_namedMethods y_live y_built y_depth y_steps y_outs y_ending : Int32} {y_isInterface y_isAbstract y_parent y_ancestors y_own y_many y_home y_name y_length y_op y_first y_second y_ruleKind y_ruleClasses y_ruleNames y_inlined y_number y_newName y_family y_vMethod y_vLine y_vHeld y_put : Nat → Int32} {chn xform xname xlen xop xcl xnu xsm xsl xca : Nat → Int32} {C M R : Nat} {a b c d : Int32}
theorem yu_b (T : tp_p C M R y_isInterface y_ancestors y_own chn y_parent y_many y_home y_ruleKind y_ruleClasses y_ruleNames xform xname xlen y_isAbstract y_name y_length xop xcl xnu xsm xsl xca y_op y_first y_second) (hR : y_rules = nI R) {A B : Prop} {m : Nat} {q : Int32} (hm : m < M) (t : (∃ r, r < R ∧ ¬ q ≤ y_ruleKind r ∧ bt (y_ruleClasses r) (hq_t (y_home m)) = true ∧ bt (y_ruleNames r) (hq_t (y_name m)) = true) → B) (f : ¬ (∃ r, r < R ∧ ¬ q ≤ y_ruleKind r ∧ bt (y_ruleClasses r) (hq_t (y_home m)) = true ∧ bt (y_ruleNames r) (hq_t (y_name m)) = true) → A) :
    wpY_isRuled (fun z => (z = 0 → A) ∧ (¬ z = 0 → B)) (y_classes, y_methods, y_rules, y_place, y_named, y_made, y_namedMethods, y_live, y_built, y_depth, y_steps, y_outs, y_ending, y_isInterface, y_isAbstract, y_parent, y_ancestors, y_own, y_many, y_home, y_name, y_length, y_op, y_first, y_second, y_ruleKind, y_ruleClasses, y_ruleNames, y_inlined, y_number, y_newName, y_family, y_vMethod, y_vLine, y_vHeld, y_put) (nI m) q := by
  have h30 := T.2.2.1.1
  have h10 := T.1.1
  have h4 := T.2.2.2.2.2.2.1
  obtain ⟨o1, o2⟩ := mh_h T.2.2.1 h10 hm
  obtain ⟨⟨n, n10, _, f2⟩, _⟩ := T.2.2.2.1 m hm
  have hne : hq_t (y_name m) = n := by rw [f2]; exact hq_e (by omega)
  have lo : ∀ k i g, i + k = R → k < g → (∀ r, r < i → ¬ (¬ q ≤ y_ruleKind r ∧ bt (y_ruleClasses r) (hq_t (y_home m)) = true ∧ bt (y_ruleNames r) (hq_t (y_name m)) = true)) →
      wY_isRuled_2 (fun z => (z = 0 → A) ∧ (¬ z = 0 → B)) (nI m) q y_classes y_methods y_rules y_place y_named y_made y_namedMethods y_live y_built y_depth y_steps y_outs y_ending y_isInterface y_isAbstract y_parent y_ancestors y_own y_many y_home y_name y_length y_op y_first y_second y_ruleKind y_ruleClasses y_ruleNames y_inlined y_number y_newName y_family y_vMethod y_vLine y_vHeld y_put g (nI i) := by
    intro k
    induction k with
    | zero =>
      intro i g e hg no
      obtain ⟨g, rfl⟩ : ∃ q, g = q + 1 := ⟨g - 1, by omega⟩
      rw [wY_isRuled_2]
      refine br_t (by rw [hR]; exact nI_le (by omega) (by omega)) (br_0 (f ?_))
      rintro ⟨r, hr, z⟩
      exact no r (by omega) z
    | succ k ih =>
      intro i g e hg no
      obtain ⟨g, rfl⟩ : ∃ q, g = q + 1 := ⟨g - 1, by omega⟩
      have nx : ¬ (¬ q ≤ y_ruleKind i ∧ bt (y_ruleClasses i) (hq_t (y_home m)) = true ∧ bt (y_ruleNames i) (hq_t (y_name m)) = true) →
          wY_isRuled_2 (fun z => (z = 0 → A) ∧ (¬ z = 0 → B)) (nI m) q y_classes y_methods y_rules y_place y_named y_made y_namedMethods y_live y_built y_depth y_steps y_outs y_ending y_isInterface y_isAbstract y_parent y_ancestors y_own y_many y_home y_name y_length y_op y_first y_second y_ruleKind y_ruleClasses y_ruleNames y_inlined y_number y_newName y_family y_vMethod y_vLine y_vHeld y_put g (nI (i + 1)) := fun y => ih (i + 1) g (by omega) (by omega) (fun r hr => by
        rcases Nat.lt_or_ge r i with v | v
        · exact no r v
        · have : r = i := by omega
          subst this; exact y)
      rw [wY_isRuled_2]
      refine br_f (by rw [hR]; exact nI_ge (by omega) (by omega)) ⟨vp_in_nI (by omega) (by decide), ?_⟩
      rw [nI_c (show i < 10000 by omega), nI_c (show m < 10000 by omega), o1, f2]
      refine br_c (fun y => nm_r (nI_1 i) (nx (fun q => q.1 y))) (fun y => ⟨vp_in_nI (by omega) (by decide), vp_in_nI (by omega) (by decide), ?_⟩)
      refine yb_b (by omega) (fun x => ⟨vp_in_nI (by omega) (by decide), vp_in_nI (by omega) (by decide), ?_⟩) (fun x => nm_r (nI_1 i) (nx (fun q => x q.2.1)))
      refine yb_b (by omega) (fun w => br_1 (t ⟨i, by omega, y, x, by rw [hne]; exact w⟩)) (fun w => nm_r (nI_1 i) (nx (fun q => w (by rw [← hne]; exact q.2.2))))
  unfold wpY_isRuled
  exact ⟨R + 1, lo R 0 (R + 1) (by omega) (by omega) (fun r hr => by omega)⟩
theorem yU_v (hC : y_classes = nI C) (hR : y_rules = nI R) (h10 : C ≤ 10) (h4 : R ≤ 4) {post : Int32 → Prop} {q : Int32}
    (K : ∀ v, (∀ i, bt v i = true ↔ i < C ∧ ∃ r, r < R ∧ ¬ q ≤ y_ruleKind r ∧ bt (y_ruleClasses r) i = true) → post v) : wpY_ruledClasses post (y_classes, y_methods, y_rules, y_place, y_named, y_made, y_namedMethods, y_live, y_built, y_depth, y_steps, y_outs, y_ending, y_isInterface, y_isAbstract, y_parent, y_ancestors, y_own, y_many, y_home, y_name, y_length, y_op, y_first, y_second, y_ruleKind, y_ruleClasses, y_ruleNames, y_inlined, y_number, y_newName, y_family, y_vMethod, y_vLine, y_vHeld, y_put) q := by
  have lo : ∀ k i g v, i + k = R → k < g → (∀ j, bt v j = true ↔ ∃ r, r < i ∧ ¬ q ≤ y_ruleKind r ∧ bt (y_ruleClasses r) j = true) → wY_ruledClasses_4 post q y_classes y_methods y_rules y_place y_named y_made y_namedMethods y_live y_built y_depth y_steps y_outs y_ending y_isInterface y_isAbstract y_parent y_ancestors y_own y_many y_home y_name y_length y_op y_first y_second y_ruleKind y_ruleClasses y_ruleNames y_inlined y_number y_newName y_family y_vMethod y_vLine y_vHeld y_put g v (nI i) := by
    intro k
    induction k with
    | zero =>
      intro i g v e hg z
      obtain ⟨g, rfl⟩ : ∃ q, g = q + 1 := ⟨g - 1, by omega⟩
      have e : i = R := by omega
      subst e
      rw [wY_ruledClasses_4]
      refine br_t (by rw [hR]; exact nI_le (by omega) (by omega)) (K _ (fun j => ?_))
      rw [hC, b_and, Bool.and_eq_true, z j]
      rcases Nat.lt_or_ge j 32 with w | w
      · rw [nu_mask C (by omega) j w, decide_eq_true_eq]
        exact And.comm
      · rw [b_big w]
        exact ⟨fun y => absurd y.2 (by decide), fun y => by omega⟩
    | succ k ih =>
      intro i g v e hg z
      obtain ⟨g, rfl⟩ : ∃ q, g = q + 1 := ⟨g - 1, by omega⟩
      rw [wY_ruledClasses_4]
      refine br_f (by rw [hR]; exact nI_ge (by omega) (by omega)) ⟨vp_in_nI (by omega) (by decide), ?_⟩
      rw [nI_c (by omega)]
      refine br_c (fun y => nm_r (nI_1 i) (ih (i + 1) g v (by omega) (by omega) (fun j => ?_))) (fun y => ⟨vp_in_nI (by omega) (by decide), nm_e (nm_r (nI_1 i) (ih (i + 1) g _ (by omega) (by omega) (fun j => ?_)))⟩)
      · rw [z j]
        constructor
        · rintro ⟨r, a1, a2⟩; exact ⟨r, by omega, a2⟩
        · rintro ⟨r, a1, a2, a3⟩
          rcases Nat.lt_or_ge r i with v | v
          · exact ⟨r, v, a2, a3⟩
          · have : r = i := by omega
            subst this; exact absurd y a2
      · rw [b_or, Bool.or_eq_true, z j]
        constructor
        · rintro (⟨r, a1, a2⟩ | a)
          · exact ⟨r, by omega, a2⟩
          · exact ⟨i, by omega, y, a⟩
        · rintro ⟨r, a1, a2, a3⟩
          rcases Nat.lt_or_ge r i with v | v
          · exact Or.inl ⟨r, v, a2, a3⟩
          · have : r = i := by omega
            subst this; exact Or.inr a3
  unfold wpY_ruledClasses
  exact ⟨R + 1, lo R 0 (R + 1) 0 (by omega) (by omega) (fun j => by
    rw [b_0]
    exact ⟨fun z => absurd z (by decide), fun ⟨r, hr, _⟩ => by omega⟩)⟩
theorem y0_v (T : tp_p C M R y_isInterface y_ancestors y_own chn y_parent y_many y_home y_ruleKind y_ruleClasses y_ruleNames xform xname xlen y_isAbstract y_name y_length xop xcl xnu xsm xsl xca y_op y_first y_second) (NF : ff_v C M y_isInterface y_ancestors chn y_home y_isAbstract y_name y_length y_op y_first y_second = none) (hC : y_classes = nI C) (hM : y_methods = nI M) (hR : y_rules = nI R) {post : SY → Prop}
    (K : ∀ a b c d, my_p (cl_ok C M R y_ancestors y_home y_name y_ruleKind y_ruleClasses y_ruleNames (fun m => y_isAbstract m = 0) (ey_p C (fun m => y_isAbstract m = 0) y_ancestors (fo_v M y_ancestors chn y_home y_name) y_length y_op y_first y_second y_inlined)) a b c d → cl_ok C M R y_ancestors y_home y_name y_ruleKind y_ruleClasses y_ruleNames (fun m => y_isAbstract m = 0) (ey_p C (fun m => y_isAbstract m = 0) y_ancestors (fo_v M y_ancestors chn y_home y_name) y_length y_op y_first y_second y_inlined) (mk_s a b c d) → post (y_classes, y_methods, y_rules, y_place, a, b, c, d, y_built, y_depth, y_steps, y_outs, y_ending, y_isInterface, y_isAbstract, y_parent, y_ancestors, y_own, y_many, y_home, y_name, y_length, y_op, y_first, y_second, y_ruleKind, y_ruleClasses, y_ruleNames, y_inlined, y_number, y_newName, y_family, y_vMethod, y_vLine, y_vHeld, y_put)) : wpY_mark post (y_classes, y_methods, y_rules, y_place, y_named, y_made, y_namedMethods, y_live, y_built, y_depth, y_steps, y_outs, y_ending, y_isInterface, y_isAbstract, y_parent, y_ancestors, y_own, y_many, y_home, y_name, y_length, y_op, y_first, y_second, y_ruleKind, y_ruleClasses, y_ruleNames, y_inlined, y_number, y_newName, y_family, y_vMethod, y_vLine, y_vHeld, y_put) := by
  have h30 := T.2.2.1.1
  have h10 := T.1.1
  have h4 := T.2.2.2.2.2.2.1
  have kd : ∀ r, r < R → (¬ (1 : Int32) ≤ y_ruleKind r ↔ y_ruleKind r = 0) := fun r hr => by
    rcases T.2.2.2.2.2.2.2 r hr with e | e
    · rw [e]; exact ⟨fun _ => rfl, fun _ => by decide⟩
    · rw [e]; exact ⟨fun z => absurd (by decide) z, fun z => absurd z (by decide)⟩
  unfold wpY_mark
  dsimp only
  refine yU_v hC hR h10 h4 (fun v hv => ⟨M + 1, ?_⟩)
  have lo : ∀ q i f c d, i + q = M → q < f → my_p (cl_ok C M R y_ancestors y_home y_name y_ruleKind y_ruleClasses y_ruleNames (fun m => y_isAbstract m = 0) (ey_p C (fun m => y_isAbstract m = 0) y_ancestors (fo_v M y_ancestors chn y_home y_name) y_length y_op y_first y_second y_inlined)) v 0 c d →
      (∀ m, m < i → (∃ r, r < R ∧ ¬ (1 : Int32) ≤ y_ruleKind r ∧ bt (y_ruleClasses r) (hq_t (y_home m)) = true ∧ bt (y_ruleNames r) (hq_t (y_name m)) = true) → bt c m = true ∧ (y_isAbstract m = 0 → bt d m = true)) →
      wY_mark_26 post f (nI i) y_classes y_methods y_rules y_place v 0 c d y_built y_depth y_steps y_outs y_ending y_isInterface y_isAbstract y_parent y_ancestors y_own y_many y_home y_name y_length y_op y_first y_second y_ruleKind y_ruleClasses y_ruleNames y_inlined y_number y_newName y_family y_vMethod y_vLine y_vHeld y_put := by
    intro q
    induction q with
    | zero =>
      intro i f c d e hf h z
      obtain ⟨f, rfl⟩ : ∃ q, f = q + 1 := ⟨f - 1, by omega⟩
      have e : i = M := by omega
      subst e
      rw [wY_mark_26]
      have mx := pc_4m v 0 c d
      refine br_t (by rw [hM]; exact nI_le (by omega) (by omega)) ⟨130, ?_⟩
      refine y6_l T NF hC hM K (128 - pc_4 v 0 c d) 130 _ _ _ _ v 0 c d (by omega) (by omega) h (fun r hr k0 => ⟨fun k hk x => (hv k).mpr ⟨hk, r, hr, (kd r hr).mpr k0, x⟩, fun m hm x y => ?_⟩) (fun s => absurd s.2.1 (by decide))
      exact z m hm ⟨r, hr, (kd r hr).mpr k0, x, y⟩
    | succ q ih =>
      intro i f c d e hf h z
      obtain ⟨f, rfl⟩ : ∃ q, f = q + 1 := ⟨f - 1, by omega⟩
      rw [wY_mark_26]
      refine br_f (by rw [hM]; exact nI_ge (by omega) (by omega)) (yu_b T hR (by omega) (fun y => ?_) (fun y => ?_))
      · refine yr_1 (m := i) (by omega) h (fun S hS => ?_) (fun c' d' m1 m2 m3 m4 => ?_)
        · obtain ⟨r, hr, k0, x1, x2⟩ := y
          exact (hS.1 r hr ((kd r hr).mp k0)).2 i (by omega) x1 x2
        · refine nm_r (nI_1 i) (ih (i + 1) f c' d' (by omega) (by omega) m1 (fun m hm x => ?_))
          rcases Nat.lt_or_ge m i with w | w
          · exact ⟨m2.2.2.1 m (z m w x).1, fun u => m2.2.2.2 m ((z m w x).2 u)⟩
          · have : m = i := by omega
            subst this; exact ⟨m3, m4⟩
      · refine nm_r (nI_1 i) (ih (i + 1) f c d (by omega) (by omega) h (fun m hm x => ?_))
        rcases Nat.lt_or_ge m i with w | w
        · exact z m w x
        · have : m = i := by omega
          subst this; exact absurd x y
  refine lo M 0 (M + 1) 0 0 (by omega) (by omega) (fun S hS => ?_) (fun m hm => by omega)
  have z : ∀ i, ¬ bt 0 i = true := fun i h => by rw [b_0] at h; exact absurd h (by decide)
  refine mk_lI (fun i h => ?_) (fun i h => absurd h (z i)) (fun i h => absurd h (z i)) (fun i h => absurd h (z i))
  obtain ⟨hi, r, hr, k0, x⟩ := (hv i).mp h
  exact (hS.1 r hr ((kd r hr).mp k0)).1 i hi x
end
end
section
/-! ===== Y's inlining ===== -/
section
variable {y_classes y_methods y_rules y_place y_named y_made y_namedMethods y_live y_built y_depth y_steps y_outs y_ending : Int32} {y_isInterface y_isAbstract y_parent y_ancestors y_own y_many y_home y_name y_length y_op y_first y_second y_ruleKind y_ruleClasses y_ruleNames y_inlined y_number y_newName y_family y_vMethod y_vLine y_vHeld y_put : Nat → Int32} {chn xform xname xlen xop xcl xnu xsm xsl xca : Nat → Int32} {C M R : Nat}
theorem yt_v (T : tp_p C M R y_isInterface y_ancestors y_own chn y_parent y_many y_home y_ruleKind y_ruleClasses y_ruleNames xform xname xlen y_isAbstract y_name y_length xop xcl xnu xsm xsl xca y_op y_first y_second) (hC : y_classes = nI C) (hM : y_methods = nI M) {post : Int32 → Prop} {j k : Nat} (hj : j < 180) (o23 : y_op j = 2 ∨ y_op j = 3) (hk : k < C) (ek : y_first j = nI k)
    (hf : ∃ g, fo_v M y_ancestors chn y_home y_name k (y_second j) = some g) (ha : ∀ g, y_op j = 3 → fo_v M y_ancestors chn y_home y_name k (y_second j) = some g → y_isAbstract g = 0)
    (K1 : ∀ t, t < M → tg_p C y_ancestors y_made (fo_v M y_ancestors chn y_home y_name) (y_op j) (y_first j) (y_second j) t → y_isAbstract t = 0 → post (nI t)) (K0 : (∀ t, tg_p C y_ancestors y_made (fo_v M y_ancestors chn y_home y_name) (y_op j) (y_first j) (y_second j) t → ¬ y_isAbstract t = 0) → post (-1)) : wpY_target post (y_classes, y_methods, y_rules, y_place, y_named, y_made, y_namedMethods, y_live, y_built, y_depth, y_steps, y_outs, y_ending, y_isInterface, y_isAbstract, y_parent, y_ancestors, y_own, y_many, y_home, y_name, y_length, y_op, y_first, y_second, y_ruleKind, y_ruleClasses, y_ruleNames, y_inlined, y_number, y_newName, y_family, y_vMethod, y_vLine, y_vHeld, y_put) (nI j) := by
  have h10 := T.1.1
  have h30 := T.2.2.1.1
  obtain ⟨g, eg⟩ := hf
  have hke : hq_t (nI k) = k := hq_e (by omega)
  unfold wpY_target
  dsimp only
  rw [nI_c (by omega)]
  refine ⟨vp_in_nI hj (by decide), nm_r ek ⟨vp_in_nI hj (by decide), br_c (fun o3 => ⟨vp_in_nI hj (by decide), ?_⟩) (fun o3 => ?_)⟩⟩
  · refine yo_v T hC hM hk ?_
    rw [eg]
    refine ⟨1, ?_⟩
    have fin : post (nI g) := K1 g (fd_s T.1 hk eg).1 (Or.inl ⟨o3, by rw [ek, hke]; exact eg⟩) (ha g o3 eg)
    rw [wY_target_36]
    refine br_c (fun _ => fin) (fun _ => ⟨vp_in_nI hj (by decide), ?_⟩)
    rw [nI_c (by omega)]
    exact br_f (by rw [o3]; decide) fin
  · have o2 : y_op j = 2 := by
      rcases o23 with z | z
      · exact z
      · exact absurd z o3
    have no3 : ∀ s, tg_p C y_ancestors y_made (fo_v M y_ancestors chn y_home y_name) (y_op j) (y_first j) (y_second j) s → ∀ d, d < C → bt y_made d = true → bt (y_ancestors d) k = true → fo_v M y_ancestors chn y_home y_name d (y_second j) = some s := fun s hs => by
      rcases hs with ⟨z, _⟩ | ⟨_, _, z⟩
      · exact absurd z o3
      · rw [ek, hke] at z; exact z
    have lo : ∀ q i f (s : Option Nat), i + q = C → q < f →
        ((s = none ∧ ∀ d, d < i → bt y_made d = true → ¬ bt (y_ancestors d) k = true) ∨
          ∃ t, s = some t ∧ t < M ∧ y_isAbstract t = 0 ∧ (∃ d, d < i ∧ bt y_made d = true ∧ bt (y_ancestors d) k = true) ∧ ∀ d, d < i → bt y_made d = true → bt (y_ancestors d) k = true → fo_v M y_ancestors chn y_home y_name d (y_second j) = some t) →
        wY_target_36 post (nI j) (nI k) y_classes y_methods y_rules y_place y_named y_made y_namedMethods y_live y_built y_depth y_steps y_outs y_ending y_isInterface y_isAbstract y_parent y_ancestors y_own y_many y_home y_name y_length y_op y_first y_second y_ruleKind y_ruleClasses y_ruleNames y_inlined y_number y_newName y_family y_vMethod y_vLine y_vHeld y_put f (oI s) (nI i) := by
      intro q
      induction q with
      | zero =>
        intro i f s e hf z
        obtain ⟨f, rfl⟩ : ∃ q, f = q + 1 := ⟨f - 1, by omega⟩
        have e : i = C := by omega
        subst e
        rw [wY_target_36]
        refine br_t (by rw [hC]; exact nI_le (by omega) (by omega)) ?_
        rcases z with ⟨rfl, z⟩ | ⟨t, rfl, tM, ta, ⟨d, d1, d2, d3⟩, z⟩
        · refine K0 (fun t ht => ?_)
          rcases ht with ⟨y, _⟩ | ⟨_, ⟨d, d1, d2, d3⟩, _⟩
          · exact absurd y o3
          · rw [ek, hke] at d3; exact absurd d3 (z d d1 d2)
        · exact K1 t tM (Or.inr ⟨o2, ⟨d, d1, d2, by rw [ek, hke]; exact d3⟩, by rw [ek, hke]; exact z⟩) ta
      | succ q ih =>
        intro i f s e hf z
        obtain ⟨f, rfl⟩ : ∃ q, f = q + 1 := ⟨f - 1, by omega⟩
        have nx : ¬ (bt y_made i = true ∧ bt (y_ancestors i) k = true) → wY_target_36 post (nI j) (nI k) y_classes y_methods y_rules y_place y_named y_made y_namedMethods y_live y_built y_depth y_steps y_outs y_ending y_isInterface y_isAbstract y_parent y_ancestors y_own y_many y_home y_name y_length y_op y_first y_second y_ruleKind y_ruleClasses y_ruleNames y_inlined y_number y_newName y_family y_vMethod y_vLine y_vHeld y_put f (oI s) (nI (i + 1)) := fun y =>
          ih (i + 1) f s (by omega) (by omega) (by
            rcases z with ⟨z1, z2⟩ | ⟨t, z1, z2, z3, ⟨d, d1, d2⟩, z4⟩
            · refine Or.inl ⟨z1, fun d hd x w => ?_⟩
              rcases Nat.lt_or_ge d i with v | v
              · exact z2 d v x w
              · have : d = i := by omega
                subst this; exact y ⟨x, w⟩
            · refine Or.inr ⟨t, z1, z2, z3, ⟨d, by omega, d2⟩, fun d hd x w => ?_⟩
              rcases Nat.lt_or_ge d i with v | v
              · exact z4 d v x w
              · have : d = i := by omega
                subst this; exact absurd ⟨x, w⟩ y)
        rw [wY_target_36]
        refine br_f (by rw [hC]; exact nI_ge (by omega) (by omega)) ⟨vp_in_nI hj (by decide), ?_⟩
        rw [nI_c (show j < 10000 by omega), nI_c (show i < 10000 by omega)]
        refine br_t o2 (yb_b (by omega) (fun y => ⟨vp_in_nI (by omega) (by decide), yb_b (by omega) (fun x => ⟨vp_in_nI hj (by decide), ?_⟩) (fun x => nm_r (nI_1 i) (nx (fun q => x q.2)))⟩) (fun y => nm_r (nI_1 i) (nx (fun q => y q.1))))
        obtain ⟨m, em⟩ := fd_up T.1 hk (d := i) (by omega) eg x
        have hm := (fd_s T.1 (by omega) em).1
        refine yo_v T hC hM (by omega) ?_
        have em' : fo_v M y_ancestors chn y_home y_name i (y_second j) = some m := em
        rw [em']
        have nxt : (s = none ∨ s = some m) → wY_target_108 post (wY_target_36 post (nI j) (nI k) y_classes y_methods y_rules y_place y_named y_made y_namedMethods y_live y_built y_depth y_steps y_outs y_ending y_isInterface y_isAbstract y_parent y_ancestors y_own y_many y_home y_name y_length y_op y_first y_second y_ruleKind y_ruleClasses y_ruleNames y_inlined y_number y_newName y_family y_vMethod y_vLine y_vHeld y_put f) (nI j) (nI k) (nI i) (oI (some m)) y_classes y_methods y_rules y_place y_named y_made y_namedMethods y_live y_built y_depth y_steps y_outs y_ending y_isInterface y_isAbstract y_parent y_ancestors y_own y_many y_home y_name y_length y_op y_first y_second y_ruleKind y_ruleClasses y_ruleNames y_inlined y_number y_newName y_family y_vMethod y_vLine y_vHeld y_put := by
          intro sm
          unfold wY_target_108
          rw [oI_s, nI_c (show m < 10000 by omega)]
          refine ⟨vp_in_nI (by omega) (by decide), br_c (fun a => nm_r (nI_1 i) (ih (i + 1) f (some m) (by omega) (by omega) (Or.inr ⟨m, rfl, hm, a, ⟨i, by omega, y, x⟩, fun d hd w v => ?_⟩))) (fun a => K0 (fun t ht => ?_))⟩
          · rcases Nat.lt_or_ge d i with u | u
            · rcases z with ⟨z1, z2⟩ | ⟨t, z1, z2, z3, _, z4⟩
              · exact absurd v (z2 d u w)
              · rcases sm with q | q
                · rw [z1] at q; exact absurd q (by simp)
                · rw [z1] at q
                  have : t = m := by simpa using q
                  subst this; exact z4 d u w v
            · have : d = i := by omega
              subst this; exact em'
          · have := no3 t ht i (by omega) y x
            rw [em'] at this
            have : m = t := by simpa using this
            subst this; exact a
        have sM : ∀ t, s = some t → t < M := fun t et => by
          rcases z with ⟨z1, _⟩ | ⟨t', z1, z2, _⟩
          · rw [z1] at et; exact absurd et (by simp)
          · rw [z1] at et
            have : t' = t := by simpa using et
            omega
        refine oI_lt (fun t et => by have := sM t et; omega) (fun sn => nxt (Or.inl sn)) (fun t st => ?_)
        have tM := sM t st
        rw [st, oI_s, oI_s]
        refine pk_eq m t (fun w => ?_) (fun w => K0 (fun t' ht => ?_))
        · subst w; exact nxt (Or.inr st)
        · have a1 := no3 t' ht i (by omega) y x
          rw [em'] at a1
          have a1 : m = t' := by simpa using a1
          rcases z with ⟨z1, _⟩ | ⟨t2, z1, _, _, ⟨d, d1, d2, d3⟩, z4⟩
          · rw [z1] at st; exact absurd st (by simp)
          · rw [z1] at st
            have st : t2 = t := by simpa using st
            have a2 := no3 t' ht d (by omega) d2 d3
            rw [z4 d d1 d2 d3] at a2
            have a2 : t2 = t' := by simpa using a2
            omega
    exact ⟨C + 1, lo C 0 (C + 1) none (by omega) (by omega) (Or.inl ⟨rfl, fun d hd => by omega⟩)⟩
end
end
section
/-! ===== Y's inlining: short methods, the loop over the lines ===== -/
section
variable {y_classes y_methods y_rules y_place y_named y_made y_namedMethods y_live y_built y_depth y_steps y_outs y_ending : Int32} {y_isInterface y_isAbstract y_parent y_ancestors y_own y_many y_home y_name y_length y_op y_first y_second y_ruleKind y_ruleClasses y_ruleNames y_inlined y_number y_newName y_family y_vMethod y_vLine y_vHeld y_put : Nat → Int32} {chn xform xname xlen xop xcl xnu xsm xsl xca : Nat → Int32} {C M R : Nat} {a b c d : Int32}
theorem yS_b (T : tp_p C M R y_isInterface y_ancestors y_own chn y_parent y_many y_home y_ruleKind y_ruleClasses y_ruleNames xform xname xlen y_isAbstract y_name y_length xop xcl xnu xsm xsl xca y_op y_first y_second) {A B : Prop} {t : Nat} (ht : t < M) (tr : sh_p y_length y_op t → B) (fa : ¬ sh_p y_length y_op t → A) : wpY_isShort (fun z => (z = 0 → A) ∧ (¬ z = 0 → B)) (y_classes, y_methods, y_rules, y_place, y_named, y_made, y_namedMethods, y_live, y_built, y_depth, y_steps, y_outs, y_ending, y_isInterface, y_isAbstract, y_parent, y_ancestors, y_own, y_many, y_home, y_name, y_length, y_op, y_first, y_second, y_ruleKind, y_ruleClasses, y_ruleNames, y_inlined, y_number, y_newName, y_family, y_vMethod, y_vLine, y_vHeld, y_put) (nI t) := by
  have h30 := T.2.2.1.1
  obtain ⟨l1, l6⟩ := ty_len T ht
  have lo : ∀ q i f, i + q = hq_t (y_length t) → q < f → (∀ k, k < i → y_op (6 * t + k) = 0 ∨ y_op (6 * t + k) = 5) → wY_isShort_5 (fun z => (z = 0 → A) ∧ (¬ z = 0 → B)) (nI t) y_classes y_methods y_rules y_place y_named y_made y_namedMethods y_live y_built y_depth y_steps y_outs y_ending y_isInterface y_isAbstract y_parent y_ancestors y_own y_many y_home y_name y_length y_op y_first y_second y_ruleKind y_ruleClasses y_ruleNames y_inlined y_number y_newName y_family y_vMethod y_vLine y_vHeld y_put f (nI (6 * t + i)) := by
    intro q
    induction q with
    | zero =>
      intro i f e hf z
      obtain ⟨f, rfl⟩ : ∃ q, f = q + 1 := ⟨f - 1, by omega⟩
      rw [wY_isShort_5]
      refine ⟨vp_in_nI (by omega) (by decide), ?_⟩
      rw [nI_c (by omega), l1, nI_a6]
      refine br_t (nI_le (by omega) (by omega)) ⟨vp_in_nI (by omega) (by decide), pk_le 4 (hq_t (y_length t)) (fun y => br_0 (fa (fun q => by have := q.1; omega))) (fun y => br_1 (tr ⟨by omega, fun k hk => z k (by omega)⟩))⟩
    | succ q ih =>
      intro i f e hf z
      obtain ⟨f, rfl⟩ : ∃ q, f = q + 1 := ⟨f - 1, by omega⟩
      have nx : (y_op (6 * t + i) = 0 ∨ y_op (6 * t + i) = 5) → wY_isShort_5 (fun z => (z = 0 → A) ∧ (¬ z = 0 → B)) (nI t) y_classes y_methods y_rules y_place y_named y_made y_namedMethods y_live y_built y_depth y_steps y_outs y_ending y_isInterface y_isAbstract y_parent y_ancestors y_own y_many y_home y_name y_length y_op y_first y_second y_ruleKind y_ruleClasses y_ruleNames y_inlined y_number y_newName y_family y_vMethod y_vLine y_vHeld y_put f (nI (6 * t + i + 1)) := fun y =>
        ih (i + 1) f (by omega) (by omega) (fun k hk => by
          rcases Nat.lt_or_ge k i with v | v
          · exact z k v
          · have : k = i := by omega
            subst this; exact y)
      rw [wY_isShort_5]
      refine ⟨vp_in_nI (by omega) (by decide), ?_⟩
      rw [nI_c (show t < 10000 by omega), l1, nI_a6, nI_c (show 6 * t + i < 10000 by omega)]
      refine br_f (nI_ge (by omega) (by omega)) ⟨vp_in_nI (by omega) (by decide), br_c (fun y => nm_r (nI_1 _) (nx (Or.inl y))) (fun y => ⟨vp_in_nI (by omega) (by decide), br_c (fun x => nm_r (nI_1 _) (nx (Or.inr x))) (fun x => br_0 (fa (fun q => ?_)))⟩)⟩
      rcases q.2 i (by omega) with w | w
      · exact y w
      · exact x w
  unfold wpY_isShort
  dsimp only
  refine nm_r (nI_m6 t) ⟨hq_t (y_length t) + 1, ?_⟩
  exact lo (hq_t (y_length t)) 0 _ (by omega) (by omega) (fun k hk => by omega)
/-- one line of the loop -/
theorem yi_1 (T : tp_p C M R y_isInterface y_ancestors y_own chn y_parent y_many y_home y_ruleKind y_ruleClasses y_ruleNames xform xname xlen y_isAbstract y_name y_length xop xcl xnu xsm xsl xca y_op y_first y_second) (NF : ff_v C M y_isInterface y_ancestors chn y_home y_isAbstract y_name y_length y_op y_first y_second = none) (hC : y_classes = nI C) (hM : y_methods = nI M) {post : Int32 → SY → Prop} {J : Int32 → (Nat → Int32) → (Nat → Int32) → (Nat → Int32) → (Nat → Int32) → (Nat → Int32) → (Nat → Int32) → (Nat → Int32) → (Nat → Int32) → (Nat → Int32) → (Nat → Int32) → (Nat → Int32) → (Nat → Int32) → (Nat → Int32) → (Nat → Int32) → (Nat → Int32) → (Nat → Int32) → (Nat → Int32) → (Nat → Int32) → (Nat → Int32) → (Nat → Int32) → (Nat → Int32) → (Nat → Int32) → (Nat → Int32) → Prop} {m k : Nat} (hm : m < M) (hk : k < hq_t (y_length m)) (hl : bt y_live m = true)
    (o23 : y_op (6 * m + k) = 2 ∨ y_op (6 * m + k) = 3)
    (K : ∀ v, il_p C M y_ancestors chn y_home y_isAbstract y_name y_length y_op y_first y_second y_made y_live m k v → (v = -1 → J (nI (6 * m + k + 1)) y_isInterface y_isAbstract y_parent y_ancestors y_own y_many y_home y_name y_length y_op y_first y_second y_ruleKind y_ruleClasses y_ruleNames y_inlined y_number y_newName y_family y_vMethod y_vLine y_vHeld y_put) ∧ (¬ v = -1 → J (nI (6 * m + k + 1)) y_isInterface y_isAbstract y_parent y_ancestors y_own y_many y_home y_name y_length y_op y_first y_second y_ruleKind y_ruleClasses y_ruleNames (upd y_inlined (6 * m + k) v) y_number y_newName y_family y_vMethod y_vLine y_vHeld y_put)) :
    wY_build_113 post J (nI (6 * m + k)) y_classes y_methods y_rules y_place y_named y_made y_namedMethods y_live y_built y_depth y_steps y_outs y_ending y_isInterface y_isAbstract y_parent y_ancestors y_own y_many y_home y_name y_length y_op y_first y_second y_ruleKind y_ruleClasses y_ruleNames y_inlined y_number y_newName y_family y_vMethod y_vLine y_vHeld y_put := by
  have h10 := T.1.1
  have h30 := T.2.2.1.1
  have l6 := (ty_len T hm).2
  have e1 : (6 * m + k) / 6 = m := by omega
  obtain ⟨o, o6, ho, g1, g2⟩ := yl_c T NF hm hk
  have oo : o = 2 ∨ o = 3 := by
    rw [ho] at o23
    rcases o23 with z | z
    · exact Or.inl ((nI_eq (a := o) (b := 2) (by omega) (by omega)).mp z)
    · exact Or.inr ((nI_eq (a := o) (b := 3) (by omega) (by omega)).mp z)
  obtain ⟨q, hq, eq⟩ := g1 (by omega) (by omega)
  obtain ⟨g, eg⟩ := g2 oo
  have hqe : hq_t (nI q) = q := hq_e (by omega)
  have none : (∀ t, ¬ it_p C M y_ancestors chn y_home y_isAbstract y_name y_length y_op y_first y_second y_made y_live m k t) → J (nI (6 * m + k + 1)) y_isInterface y_isAbstract y_parent y_ancestors y_own y_many y_home y_name y_length y_op y_first y_second y_ruleKind y_ruleClasses y_ruleNames y_inlined y_number y_newName y_family y_vMethod y_vLine y_vHeld y_put := fun z => (K (-1) (Or.inl ⟨rfl, z⟩)).1 rfl
  unfold wY_build_113
  rw [eq, hqe] at eg
  refine yt_v T hC hM (by omega) o23 hq eq ⟨g, eg⟩ (fun g' o3 eg' => ?_) (fun t tM tt ta => ?_) (fun z => ?_)
  · obtain ⟨m', em', am'⟩ := fl_f (ff_n NF hm (by omega) hk) o23
    rw [eq, hqe, eg'] at em'
    have : g' = m' := by simpa using em'
    subst this; exact am' o3
  · refine br_f (nI_pos (by omega)) ⟨by decide, ?_⟩
    rw [nI_d6 (by omega), e1]
    refine pk_eq t m (fun z => nm_r (nI_1 _) (none (fun s hs => ?_))) (fun z => ?_)
    · rw [it_i] at hs
      have u : t = s := by
        rcases tt with ⟨p1, p2⟩ | ⟨p1, ⟨d, d1, d2, d3⟩, p2⟩
        · rcases hs.2.2.2.2.2.2 with ⟨r1, r2⟩ | ⟨r1, _, r2⟩
          · rw [p2] at r2; simpa using r2
          · rw [p1] at r1; exact absurd r1 (by decide)
        · rcases hs.2.2.2.2.2.2 with ⟨r1, r2⟩ | ⟨r1, _, r2⟩
          · rw [p1] at r1; exact absurd r1 (by decide)
          · have x := p2 d d1 d2 d3
            rw [r2 d d1 d2 d3] at x
            simpa using x.symm
      exact hs.2.2.2.1 (by omega)
    · refine yS_b T tM (fun sh => ⟨vp_in_nI (by omega) (by decide), ?_⟩) (fun sh => nm_r (nI_1 _) (none (fun s hs => ?_)))
      · rw [nI_c (by omega)]
        exact nm_e (nm_r (nI_1 _) ((K (nI t) (Or.inr ⟨t, rfl, it_i.mpr ⟨hl, hk, tM, z, ta, sh, tt⟩⟩)).2 (oI_n (by omega))))
      · rw [it_i] at hs
        have u : t = s := by
          rcases tt with ⟨p1, p2⟩ | ⟨p1, ⟨d, d1, d2, d3⟩, p2⟩
          · rcases hs.2.2.2.2.2.2 with ⟨r1, r2⟩ | ⟨r1, _, r2⟩
            · rw [p2] at r2; simpa using r2
            · rw [p1] at r1; exact absurd r1 (by decide)
          · rcases hs.2.2.2.2.2.2 with ⟨r1, r2⟩ | ⟨r1, _, r2⟩
            · rw [p1] at r1; exact absurd r1 (by decide)
            · have x := p2 d d1 d2 d3
              rw [r2 d d1 d2 d3] at x
              simpa using x.symm
        subst u
        exact sh hs.2.2.2.2.2.1
  · refine br_t (by decide) (nm_r (nI_1 _) (none (fun s hs => ?_)))
    rw [it_i] at hs
    exact z s hs.2.2.2.2.2.2 hs.2.2.2.2.1
theorem yi_l (T : tp_p C M R y_isInterface y_ancestors y_own chn y_parent y_many y_home y_ruleKind y_ruleClasses y_ruleNames xform xname xlen y_isAbstract y_name y_length xop xcl xnu xsm xsl xca y_op y_first y_second) (NF : ff_v C M y_isInterface y_ancestors chn y_home y_isAbstract y_name y_length y_op y_first y_second = none) (hC : y_classes = nI C) (hM : y_methods = nI M) {post : Int32 → SY → Prop}
    (K : ∀ inl, (∀ m k, m < M → k < 6 → il_p C M y_ancestors chn y_home y_isAbstract y_name y_length y_op y_first y_second y_made y_live m k (inl (6 * m + k))) → wY_build_49 post y_classes y_methods y_rules y_place y_named y_made y_namedMethods y_live y_built y_depth y_steps y_outs y_ending 1 (nI (6 * M)) y_isInterface y_isAbstract y_parent y_ancestors y_own y_many y_home y_name y_length y_op y_first y_second y_ruleKind y_ruleClasses y_ruleNames inl y_number y_newName y_family y_vMethod y_vLine y_vHeld y_put) :
    ∀ q i f inl, i + q = 6 * M → q < f → (∀ m k, m < M → k < 6 → 6 * m + k < i → il_p C M y_ancestors chn y_home y_isAbstract y_name y_length y_op y_first y_second y_made y_live m k (inl (6 * m + k))) ∧ (∀ j, i ≤ j → j < 180 → inl j = -1) → wY_build_49 post y_classes y_methods y_rules y_place y_named y_made y_namedMethods y_live y_built y_depth y_steps y_outs y_ending f (nI i) y_isInterface y_isAbstract y_parent y_ancestors y_own y_many y_home y_name y_length y_op y_first y_second y_ruleKind y_ruleClasses y_ruleNames inl y_number y_newName y_family y_vMethod y_vLine y_vHeld y_put := by
  have h30 := T.2.2.1.1
  intro q
  induction q with
  | zero =>
    intro i f inl e hf z
    obtain ⟨f, rfl⟩ : ∃ q, f = q + 1 := ⟨f - 1, by omega⟩
    have e : i = 6 * M := by omega
    subst e
    have k := K inl (fun m k hm hk => z.1 m k hm hk (by omega))
    rw [wY_build_49] at k ⊢
    have cnd : 6 * y_methods ≤ nI (6 * M) := by rw [hM, nI_m6]; exact nI_le (by omega) (by omega)
    exact br_t cnd (k.1 cnd)
  | succ q ih =>
    intro i f inl e hf z
    obtain ⟨f, rfl⟩ : ∃ q, f = q + 1 := ⟨f - 1, by omega⟩
    obtain ⟨m, k, k6, rfl⟩ : ∃ m k, k < 6 ∧ i = 6 * m + k := ⟨i / 6, i % 6, by omega, by omega⟩
    have hm : m < M := by omega
    have e1 : (6 * m + k) / 6 = m := by omega
    have e2 : (6 * m + k) % 6 = k := by omega
    obtain ⟨l1, l6⟩ := ty_len T hm
    have nx0 : il_p C M y_ancestors chn y_home y_isAbstract y_name y_length y_op y_first y_second y_made y_live m k (-1) → wY_build_49 post y_classes y_methods y_rules y_place y_named y_made y_namedMethods y_live y_built y_depth y_steps y_outs y_ending f (nI (6 * m + k + 1)) y_isInterface y_isAbstract y_parent y_ancestors y_own y_many y_home y_name y_length y_op y_first y_second y_ruleKind y_ruleClasses y_ruleNames inl y_number y_newName y_family y_vMethod y_vLine y_vHeld y_put := fun y =>
      ih _ f inl (by omega) (by omega) ⟨fun m' k' hm' hk' hl => by
        rcases Nat.lt_or_ge (6 * m' + k') (6 * m + k) with v | v
        · exact z.1 m' k' hm' hk' v
        · have a1 : m' = m := by omega
          have a2 : k' = k := by omega
          subst a1 a2
          rw [z.2 _ (by omega) (by omega)]; exact y, fun j h1 h2 => z.2 j (by omega) h2⟩
    have no : (∀ t, ¬ it_p C M y_ancestors chn y_home y_isAbstract y_name y_length y_op y_first y_second y_made y_live m k t) → wY_build_49 post y_classes y_methods y_rules y_place y_named y_made y_namedMethods y_live y_built y_depth y_steps y_outs y_ending f (nI (6 * m + k + 1)) y_isInterface y_isAbstract y_parent y_ancestors y_own y_many y_home y_name y_length y_op y_first y_second y_ruleKind y_ruleClasses y_ruleNames inl y_number y_newName y_family y_vMethod y_vLine y_vHeld y_put := fun y => nx0 (Or.inl ⟨rfl, y⟩)
    rw [wY_build_49]
    refine br_f (by rw [hM, nI_m6]; exact nI_ge (by omega) (by omega)) ⟨by decide, ?_⟩
    rw [nI_r6 (by omega), nI_d6 (by omega), e1, e2, nI_c (show m < 10000 by omega), nI_c (show 6 * m + k < 10000 by omega), l1]
    refine yb_b (by omega) (fun y => ⟨by decide, by decide, vp_in_nI (by omega) (by decide), pk_le (hq_t (y_length m)) k (fun x => nm_r (nI_1 _) (no (fun t ht => by have := ht.2.1; omega))) (fun kl => ⟨vp_in_nI (by omega) (by decide), ?_⟩)⟩) (fun y => nm_r (nI_1 _) (no (fun t ht => y ht.1)))
    have one : (y_op (6 * m + k) = 2 ∨ y_op (6 * m + k) = 3) → wY_build_113 post (wY_build_49 post y_classes y_methods y_rules y_place y_named y_made y_namedMethods y_live y_built y_depth y_steps y_outs y_ending f) (nI (6 * m + k)) y_classes y_methods y_rules y_place y_named y_made y_namedMethods y_live y_built y_depth y_steps y_outs y_ending y_isInterface y_isAbstract y_parent y_ancestors y_own y_many y_home y_name y_length y_op y_first y_second y_ruleKind y_ruleClasses y_ruleNames inl y_number y_newName y_family y_vMethod y_vLine y_vHeld y_put := fun o23 =>
      yi_1 T NF hC hM hm kl y o23 (fun v hv => ⟨fun ev => nx0 (by rw [← ev]; exact hv), fun _ => ih _ f _ (by omega) (by omega) ⟨fun m' k' hm' hk' hl => by
        rcases Nat.lt_or_ge (6 * m' + k') (6 * m + k) with v | v
        · rw [pk_un (by omega)]; exact z.1 m' k' hm' hk' v
        · have a1 : m' = m := by omega
          have a2 : k' = k := by omega
          subst a1 a2
          rw [pk_us]; exact hv, fun j h1 h2 => by rw [pk_un (by omega)]; exact z.2 j (by omega) h2⟩⟩)
    refine br_c (fun x => one (Or.inl x)) (fun x => ⟨vp_in_nI (by omega) (by decide), br_c (fun w => one (Or.inr w)) (fun w => nm_r (nI_1 _) (no (fun t ht => ?_)))⟩)
    rcases ht.2.2.2.2.2.2.2 with ⟨p, _⟩ | ⟨p, _⟩
    · exact w p
    · exact x p
end
end
section
/-! ===== X's targets and short methods ===== -/
section
variable {x_classCount x_methodCount x_ruleCount x_isBuilt x_faultPlace x_namedClasses x_madeClasses x_namedMethods x_liveMethods x_depth x_stepCount x_outCount x_traceCount : Int32} {x_isInterfaceClass x_chainOf x_interfacesOf x_ancestorsOf x_homeOf x_formOf x_nameOf x_lengthOf x_opOf x_classOf x_numberOf x_sourceMethod x_sourceLine x_callLine x_ruleKind x_ruleClasses x_ruleNames x_newNumber x_familyOf x_sightOf x_frameRow x_frameLine x_frameHeld x_outInts x_traceMethod x_traceLine : Nat → Int32} {y_parent y_many y_isAbstract y_name y_length y_op y_first y_second : Nat → Int32} {C M R : Nat}
theorem xO_v (T : tp_p C M R x_isInterfaceClass x_ancestorsOf x_interfacesOf x_chainOf y_parent y_many x_homeOf x_ruleKind x_ruleClasses x_ruleNames x_formOf x_nameOf x_lengthOf y_isAbstract y_name y_length x_opOf x_classOf x_numberOf x_sourceMethod x_sourceLine x_callLine y_op y_first y_second) (hC : x_classCount = nI C) (hM : x_methodCount = nI M) {post : Int32 → Prop} {k : Nat} {n : Int32} (hk : k < C) (hf : ∃ g, fo_v M x_ancestorsOf x_chainOf x_homeOf y_name k n = some g)
    (K1 : ∀ t, t < M → (∃ d, d < C ∧ bt x_madeClasses d = true ∧ bt (x_ancestorsOf d) k = true) → (∀ d, d < C → bt x_madeClasses d = true → bt (x_ancestorsOf d) k = true → fo_v M x_ancestorsOf x_chainOf x_homeOf y_name d n = some t) → post (nI t))
    (K0 : (∀ t, (∃ d, d < C ∧ bt x_madeClasses d = true ∧ bt (x_ancestorsOf d) k = true) → ¬ (∀ d, d < C → bt x_madeClasses d = true → bt (x_ancestorsOf d) k = true → fo_v M x_ancestorsOf x_chainOf x_homeOf y_name d n = some t)) → post (-1)) :
    wpX_onlyTarget post (x_classCount, x_methodCount, x_ruleCount, x_isBuilt, x_faultPlace, x_namedClasses, x_madeClasses, x_namedMethods, x_liveMethods, x_depth, x_stepCount, x_outCount, x_traceCount, x_isInterfaceClass, x_chainOf, x_interfacesOf, x_ancestorsOf, x_homeOf, x_formOf, x_nameOf, x_lengthOf, x_opOf, x_classOf, x_numberOf, x_sourceMethod, x_sourceLine, x_callLine, x_ruleKind, x_ruleClasses, x_ruleNames, x_newNumber, x_familyOf, x_sightOf, x_frameRow, x_frameLine, x_frameHeld, x_outInts, x_traceMethod, x_traceLine) (nI k) n := by
  have h10 := T.1.1
  have h30 := T.2.2.1.1
  obtain ⟨g, eg⟩ := hf
  have lo : ∀ q i f (s : Option Nat), i + q = C → q < f →
      ((s = none ∧ ∀ d, d < i → bt x_madeClasses d = true → ¬ bt (x_ancestorsOf d) k = true) ∨
        ∃ t, s = some t ∧ t < M ∧ (∃ d, d < i ∧ bt x_madeClasses d = true ∧ bt (x_ancestorsOf d) k = true) ∧ ∀ d, d < i → bt x_madeClasses d = true → bt (x_ancestorsOf d) k = true → fo_v M x_ancestorsOf x_chainOf x_homeOf y_name d n = some t) →
      wX_onlyTarget_5 post (nI k) n x_classCount x_methodCount x_ruleCount x_isBuilt x_faultPlace x_namedClasses x_madeClasses x_namedMethods x_liveMethods x_depth x_stepCount x_outCount x_traceCount x_isInterfaceClass x_chainOf x_interfacesOf x_ancestorsOf x_homeOf x_formOf x_nameOf x_lengthOf x_opOf x_classOf x_numberOf x_sourceMethod x_sourceLine x_callLine x_ruleKind x_ruleClasses x_ruleNames x_newNumber x_familyOf x_sightOf x_frameRow x_frameLine x_frameHeld x_outInts x_traceMethod x_traceLine f (oI s) (nI i) := by
    intro q
    induction q with
    | zero =>
      intro i f s e hf z
      obtain ⟨f, rfl⟩ : ∃ q, f = q + 1 := ⟨f - 1, by omega⟩
      have e : i = C := by omega
      subst e
      rw [wX_onlyTarget_5]
      refine br_t (by rw [hC]; exact nI_le (by omega) (by omega)) ?_
      rcases z with ⟨rfl, z⟩ | ⟨t, rfl, tM, dd, z⟩
      · exact K0 (fun t ⟨d, d1, d2, d3⟩ => absurd d3 (z d d1 d2))
      · exact K1 t tM dd z
    | succ q ih =>
      intro i f s e hf z
      obtain ⟨f, rfl⟩ : ∃ q, f = q + 1 := ⟨f - 1, by omega⟩
      have nx : ¬ (bt x_madeClasses i = true ∧ bt (x_ancestorsOf i) k = true) → wX_onlyTarget_5 post (nI k) n x_classCount x_methodCount x_ruleCount x_isBuilt x_faultPlace x_namedClasses x_madeClasses x_namedMethods x_liveMethods x_depth x_stepCount x_outCount x_traceCount x_isInterfaceClass x_chainOf x_interfacesOf x_ancestorsOf x_homeOf x_formOf x_nameOf x_lengthOf x_opOf x_classOf x_numberOf x_sourceMethod x_sourceLine x_callLine x_ruleKind x_ruleClasses x_ruleNames x_newNumber x_familyOf x_sightOf x_frameRow x_frameLine x_frameHeld x_outInts x_traceMethod x_traceLine f (oI s) (nI (i + 1)) := fun y =>
        ih (i + 1) f s (by omega) (by omega) (by
          rcases z with ⟨z1, z2⟩ | ⟨t, z1, z2, ⟨d, d1, d2⟩, z4⟩
          · refine Or.inl ⟨z1, fun d hd x w => ?_⟩
            rcases Nat.lt_or_ge d i with v | v
            · exact z2 d v x w
            · have : d = i := by omega
              subst this; exact y ⟨x, w⟩
          · refine Or.inr ⟨t, z1, z2, ⟨d, by omega, d2⟩, fun d hd x w => ?_⟩
            rcases Nat.lt_or_ge d i with v | v
            · exact z4 d v x w
            · have : d = i := by omega
              subst this; exact absurd ⟨x, w⟩ y)
      rw [wX_onlyTarget_5]
      refine br_f (by rw [hC]; exact nI_ge (by omega) (by omega)) (xh_b (by omega) (fun y => xd_b (by omega) (by omega) (fun x => ?_) (fun x => nm_r (nI_1 i) (nx (fun q => x q.2)))) (fun y => nm_r (nI_1 i) (nx (fun q => y q.1))))
      obtain ⟨m, em⟩ := fd_up T.1 hk (d := i) (by omega) eg x
      have hm := (fd_s T.1 (by omega) em).1
      have em' : fo_v M x_ancestorsOf x_chainOf x_homeOf y_name i n = some m := em
      refine xo_v T hM (by omega) ?_
      rw [em', oI_s]
      have nxt : (s = none ∨ s = some m) → wX_onlyTarget_5 post (nI k) n x_classCount x_methodCount x_ruleCount x_isBuilt x_faultPlace x_namedClasses x_madeClasses x_namedMethods x_liveMethods x_depth x_stepCount x_outCount x_traceCount x_isInterfaceClass x_chainOf x_interfacesOf x_ancestorsOf x_homeOf x_formOf x_nameOf x_lengthOf x_opOf x_classOf x_numberOf x_sourceMethod x_sourceLine x_callLine x_ruleKind x_ruleClasses x_ruleNames x_newNumber x_familyOf x_sightOf x_frameRow x_frameLine x_frameHeld x_outInts x_traceMethod x_traceLine f (nI m) (nI (i + 1)) := fun sm =>
        ih (i + 1) f (some m) (by omega) (by omega) (Or.inr ⟨m, rfl, hm, ⟨i, by omega, y, x⟩, fun d hd w v => by
          rcases Nat.lt_or_ge d i with u | u
          · rcases z with ⟨z1, z2⟩ | ⟨t, z1, z2, _, z4⟩
            · exact absurd v (z2 d u w)
            · rcases sm with q | q
              · rw [z1] at q; exact absurd q (by simp)
              · rw [z1] at q
                have : t = m := by simpa using q
                subst this; exact z4 d u w v
          · have : d = i := by omega
            subst this; exact em'⟩)
      rcases z with ⟨z1, z2⟩ | ⟨t, z1, tM, ⟨d, d1, d2, d3⟩, z4⟩
      · subst z1
        exact br_t rfl (nm_r (nI_1 i) (nxt (Or.inl rfl)))
      · subst z1
        refine br_f (oI_n (by omega)) ?_
        rw [oI_s]
        refine pk_eq t m (fun w => ?_) (fun w => K0 (fun t' _ ht => ?_))
        · subst w; exact nm_r (nI_1 i) (nxt (Or.inr rfl))
        · have a1 := ht i (by omega) y x
          rw [em'] at a1
          have a1 : m = t' := by simpa using a1
          have a2 := ht d (by omega) d2 d3
          rw [z4 d d1 d2 d3] at a2
          have a2 : t = t' := by simpa using a2
          omega
  unfold wpX_onlyTarget
  exact ⟨C + 1, lo C 0 (C + 1) none (by omega) (by omega) (Or.inl ⟨rfl, fun d hd => by omega⟩)⟩
/-- the cells of the told program in X and Y -/
theorem xc_c (T : tp_p C M R x_isInterfaceClass x_ancestorsOf x_interfacesOf x_chainOf y_parent y_many x_homeOf x_ruleKind x_ruleClasses x_ruleNames x_formOf x_nameOf x_lengthOf y_isAbstract y_name y_length x_opOf x_classOf x_numberOf x_sourceMethod x_sourceLine x_callLine y_op y_first y_second) (NF : ff_v C M x_isInterfaceClass x_ancestorsOf x_chainOf x_homeOf y_isAbstract y_name y_length y_op y_first y_second = none) {m k : Nat} (hm : m < M) (hk : k < hq_t (y_length m)) :
    ∃ o, o < 6 ∧ y_op (6 * m + k) = nI o ∧ x_opOf (24 * m + k) = nI o ∧
      ((1 ≤ o ∧ o ≤ 4) → ∃ q, q < C ∧ y_first (6 * m + k) = nI q ∧ x_classOf (24 * m + k) = nI q) ∧ (¬ (1 ≤ o ∧ o ≤ 4) → x_classOf (24 * m + k) = -1) ∧
      (o = 2 ∨ o = 3 → (x_numberOf (24 * m + k) = y_second (6 * m + k)) ∧ ∃ g, fo_v M x_ancestorsOf x_chainOf x_homeOf y_name (hq_t (y_first (6 * m + k))) (y_second (6 * m + k)) = some g ∧ (o = 3 → y_isAbstract g = 0)) := by
  obtain ⟨_, l1, l6⟩ := tp_len T hm
  obtain ⟨o, o6, e1, e2, e3, e4, e5, _⟩ := T.2.2.2.2.2.1 m k hm hk
  have z := ff_n NF hm (by omega) hk
  refine ⟨o, o6, e2, e1, fun h14 => ?_, e4, fun h => ?_⟩
  · obtain ⟨q, q10, f1, f2⟩ := e3 h14
    have no : ¬ (y_op (6 * m + k) = 0 ∨ y_op (6 * m + k) = 5) := by
      rw [e2]
      rintro (y | y)
      · have := (nI_eq (a := o) (b := 0) (by omega) (by omega)).mp y; omega
      · have := (nI_eq (a := o) (b := 5) (by omega) (by omega)).mp y; omega
    have := fl_c z no
    rw [f2, hq_e (by omega)] at this
    exact ⟨q, this, f2, f1⟩
  · have o23 : y_op (6 * m + k) = 2 ∨ y_op (6 * m + k) = 3 := by
      rw [e2]
      rcases h with h | h
      · subst h; exact Or.inl rfl
      · subst h; exact Or.inr rfl
    obtain ⟨n, _, g1, g2⟩ := e5 h
    obtain ⟨g, eg, ag⟩ := fl_f z o23
    refine ⟨by rw [g1, g2], g, eg, fun o3 => ag ?_⟩
    rw [e2, o3]; rfl
theorem xT_v (T : tp_p C M R x_isInterfaceClass x_ancestorsOf x_interfacesOf x_chainOf y_parent y_many x_homeOf x_ruleKind x_ruleClasses x_ruleNames x_formOf x_nameOf x_lengthOf y_isAbstract y_name y_length x_opOf x_classOf x_numberOf x_sourceMethod x_sourceLine x_callLine y_op y_first y_second) (NF : ff_v C M x_isInterfaceClass x_ancestorsOf x_chainOf x_homeOf y_isAbstract y_name y_length y_op y_first y_second = none) (hC : x_classCount = nI C) (hM : x_methodCount = nI M) {post : Int32 → Prop} {m k : Nat} (hm : m < M) (hk : k < hq_t (y_length m))
    (K1 : ∀ t, t < M → tg_p C x_ancestorsOf x_madeClasses (fo_v M x_ancestorsOf x_chainOf x_homeOf y_name) (y_op (6 * m + k)) (y_first (6 * m + k)) (y_second (6 * m + k)) t → post (nI t)) (K0 : (∀ t, ¬ tg_p C x_ancestorsOf x_madeClasses (fo_v M x_ancestorsOf x_chainOf x_homeOf y_name) (y_op (6 * m + k)) (y_first (6 * m + k)) (y_second (6 * m + k)) t) → post (-1)) : wpX_targetOf post (x_classCount, x_methodCount, x_ruleCount, x_isBuilt, x_faultPlace, x_namedClasses, x_madeClasses, x_namedMethods, x_liveMethods, x_depth, x_stepCount, x_outCount, x_traceCount, x_isInterfaceClass, x_chainOf, x_interfacesOf, x_ancestorsOf, x_homeOf, x_formOf, x_nameOf, x_lengthOf, x_opOf, x_classOf, x_numberOf, x_sourceMethod, x_sourceLine, x_callLine, x_ruleKind, x_ruleClasses, x_ruleNames, x_newNumber, x_familyOf, x_sightOf, x_frameRow, x_frameLine, x_frameHeld, x_outInts, x_traceMethod, x_traceLine) (nI (24 * m + k)) := by
  have h10 := T.1.1
  have h30 := T.2.2.1.1
  have l6 := (tp_len T hm).2.2
  obtain ⟨o, o6, ey, ex, g1, g2, g3⟩ := xc_c T NF hm hk
  unfold wpX_targetOf
  dsimp only
  rw [nI_c (by omega)]
  refine ⟨vp_in_nI (by omega) (by decide), nm_r ex (pk_eq o 2 (fun z => ⟨vp_in_nI (by omega) (by decide), vp_in_nI (by omega) (by decide), ?_⟩) (fun z2 => pk_eq o 3 (fun z => ⟨vp_in_nI (by omega) (by decide), vp_in_nI (by omega) (by decide), ?_⟩) (fun z3 => K0 (fun t ht => ?_))))⟩
  · subst z
    obtain ⟨q, hq, f1, f2⟩ := g1 (by omega)
    obtain ⟨en, g, eg, _⟩ := g3 (Or.inl rfl)
    have hqe : hq_t (nI q) = q := hq_e (by omega)
    rw [f1, hqe] at eg
    rw [f2, en]
    refine xO_v T hC hM hq ⟨g, eg⟩ (fun t tM d1 d2 => K1 t tM (Or.inr ⟨ey, ?_, ?_⟩)) (fun z => K0 (fun t ht => ?_))
    · rw [f1, hqe]; exact d1
    · rw [f1, hqe]; exact d2
    · rcases ht with ⟨y, _⟩ | ⟨_, d1, d2⟩
      · rw [ey] at y; exact absurd y (by decide)
      · rw [f1, hqe] at d1 d2; exact z t d1 d2
  · subst z
    obtain ⟨q, hq, f1, f2⟩ := g1 (by omega)
    obtain ⟨en, g, eg, _⟩ := g3 (Or.inr rfl)
    have hqe : hq_t (nI q) = q := hq_e (by omega)
    rw [f2, en]
    refine xo_v T hM hq ?_
    have eg' := eg
    rw [f1, hqe] at eg'
    rw [eg', oI_s]
    exact K1 g (fd_s T.1 hq eg').1 (Or.inl ⟨ey, eg⟩)
  · rcases ht with ⟨y, _⟩ | ⟨y, _⟩
    · rw [ey] at y; exact z3 ((nI_eq (a := o) (b := 3) (by omega) (by omega)).mp y)
    · rw [ey] at y; exact z2 ((nI_eq (a := o) (b := 2) (by omega) (by omega)).mp y)
theorem xS_b (T : tp_p C M R x_isInterfaceClass x_ancestorsOf x_interfacesOf x_chainOf y_parent y_many x_homeOf x_ruleKind x_ruleClasses x_ruleNames x_formOf x_nameOf x_lengthOf y_isAbstract y_name y_length x_opOf x_classOf x_numberOf x_sourceMethod x_sourceLine x_callLine y_op y_first y_second) {A B : Prop} {t : Nat} (ht : t < M) (tr : y_isAbstract t = 0 → sh_p y_length y_op t → B) (fa : ¬ (y_isAbstract t = 0 ∧ sh_p y_length y_op t) → A) :
    wpX_isShort (fun z => (z = 0 → A) ∧ (¬ z = 0 → B)) (x_classCount, x_methodCount, x_ruleCount, x_isBuilt, x_faultPlace, x_namedClasses, x_madeClasses, x_namedMethods, x_liveMethods, x_depth, x_stepCount, x_outCount, x_traceCount, x_isInterfaceClass, x_chainOf, x_interfacesOf, x_ancestorsOf, x_homeOf, x_formOf, x_nameOf, x_lengthOf, x_opOf, x_classOf, x_numberOf, x_sourceMethod, x_sourceLine, x_callLine, x_ruleKind, x_ruleClasses, x_ruleNames, x_newNumber, x_familyOf, x_sightOf, x_frameRow, x_frameLine, x_frameHeld, x_outInts, x_traceMethod, x_traceLine) (nI t) := by
  have h30 := T.2.2.1.1
  obtain ⟨l1, _, l6⟩ := tp_len T ht
  have lo : hq_t (y_length t) ≤ 3 → y_isAbstract t = 0 → ∀ q i f, i + q = hq_t (y_length t) → q < f → (∀ k, k < i → y_op (6 * t + k) = 0 ∨ y_op (6 * t + k) = 5) → wX_isShort_24 (fun z => (z = 0 → A) ∧ (¬ z = 0 → B)) (nI t) x_classCount x_methodCount x_ruleCount x_isBuilt x_faultPlace x_namedClasses x_madeClasses x_namedMethods x_liveMethods x_depth x_stepCount x_outCount x_traceCount x_isInterfaceClass x_chainOf x_interfacesOf x_ancestorsOf x_homeOf x_formOf x_nameOf x_lengthOf x_opOf x_classOf x_numberOf x_sourceMethod x_sourceLine x_callLine x_ruleKind x_ruleClasses x_ruleNames x_newNumber x_familyOf x_sightOf x_frameRow x_frameLine x_frameHeld x_outInts x_traceMethod x_traceLine f (nI i) := by
    intro l3 ab q
    induction q with
    | zero =>
      intro i f e hf z
      obtain ⟨f, rfl⟩ : ∃ q, f = q + 1 := ⟨f - 1, by omega⟩
      rw [wX_isShort_24]
      refine ⟨vp_in_nI (by omega) (by decide), ?_⟩
      rw [nI_c (by omega), l1]
      exact br_t (nI_le (by omega) (by omega)) (br_1 (tr ab ⟨l3, fun k hk => z k (by omega)⟩))
    | succ q ih =>
      intro i f e hf z
      obtain ⟨f, rfl⟩ : ∃ q, f = q + 1 := ⟨f - 1, by omega⟩
      have nx : (y_op (6 * t + i) = 0 ∨ y_op (6 * t + i) = 5) → wX_isShort_24 (fun z => (z = 0 → A) ∧ (¬ z = 0 → B)) (nI t) x_classCount x_methodCount x_ruleCount x_isBuilt x_faultPlace x_namedClasses x_madeClasses x_namedMethods x_liveMethods x_depth x_stepCount x_outCount x_traceCount x_isInterfaceClass x_chainOf x_interfacesOf x_ancestorsOf x_homeOf x_formOf x_nameOf x_lengthOf x_opOf x_classOf x_numberOf x_sourceMethod x_sourceLine x_callLine x_ruleKind x_ruleClasses x_ruleNames x_newNumber x_familyOf x_sightOf x_frameRow x_frameLine x_frameHeld x_outInts x_traceMethod x_traceLine f (nI (i + 1)) := fun y =>
        ih (i + 1) f (by omega) (by omega) (fun k hk => by
          rcases Nat.lt_or_ge k i with v | v
          · exact z k v
          · have : k = i := by omega
            subst this; exact y)
      obtain ⟨o, o6, e1, e2, _⟩ := T.2.2.2.2.2.1 t i ht (by omega)
      rw [wX_isShort_24]
      refine ⟨vp_in_nI (by omega) (by decide), ?_⟩
      rw [nI_c (show t < 10000 by omega), l1, nI_a24, nI_c (show 24 * t + i < 10000 by omega)]
      refine br_f (nI_ge (by omega) (by omega)) ⟨vp_in_nI (by omega) (by decide), nm_r (e1.trans e2.symm) (br_c (fun y => nm_r (nI_1 _) (nx (Or.inl y))) (fun y => br_c (fun x => nm_r (nI_1 _) (nx (Or.inr x))) (fun x => br_0 (fa (fun q => ?_)))))⟩
      rcases q.2.2 i (by omega) with w | w
      · exact y w
      · exact x w
  unfold wpX_isShort
  dsimp only
  rw [nI_c (by omega), l1]
  refine ⟨vp_in_nI (by omega) (by decide), ?_⟩
  rcases (T.2.2.2.1 t ht).2.2.1 with ⟨a1, a2⟩ | ⟨a1, a2⟩
  · refine br_t a2 ⟨vp_in_nI (by omega) (by decide), pk_le (hq_t (y_length t)) 3 (fun y => ⟨hq_t (y_length t) + 1, lo y a1 (hq_t (y_length t)) 0 _ (by omega) (by omega) (fun k hk => by omega)⟩) (fun y => br_0 (fa (fun q => by have := q.2.1; omega)))⟩
  · exact br_f (by rw [a2]; decide) (br_0 (fa (fun q => a1 q.1)))
end
end
section
/-! ===== the layout of the new program ===== -/
def in_ok (M : Nat) (inl ylen : Nat → Int32) : Prop := ∀ m x, m < M → x < hq_t (ylen m) → inl (6 * m + x) = -1 ∨ ∃ t, t < M ∧ inl (6 * m + x) = nI t ∧ hq_t (ylen t) ≤ 3
theorem gy_4 {M : Nat} {inl ylen : Nat → Int32} (h : in_ok M inl ylen) (hM : M ≤ 30) {m : Nat} (hm : m < M) (x : Nat) : gy_n inl ylen m x ≤ 4 := by
  unfold gy_n
  by_cases c : x < hq_t (ylen m) ∧ ¬ inl (6 * m + x) < 0
  · rw [if_pos c]
    rcases h m x hm c.1 with e | ⟨t, tM, e, l3⟩
    · rw [e] at c; exact absurd (by decide) c.2
    · rw [e, hq_e (by omega)]; omega
  · rw [if_neg c]; omega
theorem po_24 {M : Nat} {inl ylen : Nat → Int32} (h : in_ok M inl ylen) (hM : M ≤ 30) {m : Nat} (hm : m < M) {x : Nat} (hx : x ≤ 6) : po_n inl ylen m x ≤ 24 := by
  have := ps_4 (gy_4 h hM hm) x
  unfold po_n
  omega
theorem po_s (inl ylen : Nat → Int32) (m x : Nat) : po_n inl ylen m (x + 1) = po_n inl ylen m x + gy_n inl ylen m x := rfl
theorem gy_1 {inl ylen : Nat → Int32} {m x : Nat} (h : inl (6 * m + x) < 0) : gy_n inl ylen m x = 1 := if_neg (fun z => z.2 h)
theorem gy_t {inl ylen : Nat → Int32} {m x : Nat} (hx : x < hq_t (ylen m)) (h : ¬ inl (6 * m + x) < 0) : gy_n inl ylen m x = 1 + hq_t (ylen (hq_t (inl (6 * m + x)))) := if_pos ⟨hx, h⟩
/-- what lies below stays -/
theorem lc_fr {M : Nat} {inl ylen O P N S U A O' P' N' S' U' A' : Nat → Int32} {nv : Nat → Nat → Int32} (h : in_ok M inl ylen) (hM : M ≤ 30) {m x : Nat} (hm : m < M) (hx : x < hq_t (ylen m)) (h6 : hq_t (ylen m) ≤ 6)
    {B : Nat} (hB : 24 * (30 + m) + po_n inl ylen m (x + 1) ≤ B)
    (fO : ∀ j, j < B → O' j = O j) (fP : ∀ j, j < B → P' j = P j) (fN : ∀ j, j < B → N' j = N j) (fS : ∀ j, j < B → S' j = S j) (fU : ∀ j, j < B → U' j = U j) (fA : ∀ j, j < B → A' j = A j)
    (z : lc_p inl ylen O P N S U A nv m x) : lc_p inl ylen O' P' N' S' U' A' nv m x := by
  rw [po_s] at hB
  obtain ⟨z1, z2, z3, z4, z5⟩ := z
  have g1 : 1 ≤ gy_n inl ylen m x := by
    unfold gy_n; split <;> omega
  refine ⟨fun i => ?_, fun i => ?_, ?_, ?_, ?_⟩
  · obtain ⟨a, b, c⟩ := z1 i
    rw [fO _ (by omega), fO _ (by omega), fP _ (by omega), fP _ (by omega), fN _ (by omega)]
    exact ⟨a, b, c⟩
  · obtain ⟨a, b, c, d⟩ := z2 i
    rw [fO _ (by omega), fO _ (by omega), fP _ (by omega), fP _ (by omega), fN _ (by omega)]
    refine ⟨a, b, c, fun k hk => ?_⟩
    rw [gy_t hx i] at hB
    rcases h m x hm hx with e | ⟨t, tM, e, l3⟩
    · rw [e] at i; exact absurd (by decide) i
    · have ht : hq_t (inl (6 * m + x)) = t := by rw [e]; exact hq_e (by omega)
      have d := d k hk
      rw [ht] at hB hk d ⊢
      rw [fO _ (by omega), fO _ (by omega), fP _ (by omega), fN _ (by omega), fN _ (by omega), fS _ (by omega), fU _ (by omega), fA _ (by omega)]
      exact d
  · rw [fS _ (by omega)]; exact z3
  · rw [fU _ (by omega)]; exact z4
  · rw [fA _ (by omega)]; exact z5
section
variable {x_classCount x_methodCount x_ruleCount x_isBuilt x_faultPlace x_namedClasses x_madeClasses x_namedMethods x_liveMethods x_depth x_stepCount x_outCount x_traceCount : Int32} {x_isInterfaceClass x_chainOf x_interfacesOf x_ancestorsOf x_homeOf x_formOf x_nameOf x_lengthOf x_opOf x_classOf x_numberOf x_sourceMethod x_sourceLine x_callLine x_ruleKind x_ruleClasses x_ruleNames x_newNumber x_familyOf x_sightOf x_frameRow x_frameLine x_frameHeld x_outInts x_traceMethod x_traceLine : Nat → Int32} {y_parent y_many y_isAbstract y_name y_length y_op y_first y_second : Nat → Int32} {C M R : Nat} {inl : Nat → Int32} {nv : Nat → Nat → Int32}
/-- the rows below m are laid, and k lines of row m -/
def pv_p (C M R : Nat) (ifc anc own chn par many hom rk rc rn xform xname yabs yname ylen yop yfi yse inl : Nat → Int32) (nv : Nat → Nat → Int32) (m k : Nat) (L O P N S U A : Nat → Int32) : Prop :=
  tp_p C M R ifc anc own chn par many hom rk rc rn xform xname L yabs yname ylen O P N S U A yop yfi yse ∧
  (∀ m', m' < m → L (30 + m') = nI (po_n inl ylen m' (hq_t (ylen m'))) ∧ ∀ x, x < hq_t (ylen m') → lc_p inl ylen O P N S U A nv m' x) ∧
  (∀ x, x < k → lc_p inl ylen O P N S U A nv m x) ∧ (∀ m x, m < M → x < hq_t (ylen m) → N (24 * m + x) = nv m x)
theorem pv_fr (h : in_ok M inl y_length) {m k : Nat} (hm : m < M) (hk : k ≤ hq_t (y_length m)) {L O P N S U A : Nat → Int32} {L' O' P' N' S' U' A' : Nat → Int32} (z : pv_p C M R x_isInterfaceClass x_ancestorsOf x_interfacesOf x_chainOf y_parent y_many x_homeOf x_ruleKind x_ruleClasses x_ruleNames x_formOf x_nameOf y_isAbstract y_name y_length y_op y_first y_second inl nv m k L O P N S U A)
    (fL : ∀ j, j < 30 + m → L' j = L j) (fO : ∀ j, j < 24 * (30 + m) + po_n inl y_length m k → O' j = O j) (fP : ∀ j, j < 24 * (30 + m) + po_n inl y_length m k → P' j = P j) (fN : ∀ j, j < 24 * (30 + m) + po_n inl y_length m k → N' j = N j)
    (fS : ∀ j, j < 24 * (30 + m) + po_n inl y_length m k → S' j = S j) (fU : ∀ j, j < 24 * (30 + m) + po_n inl y_length m k → U' j = U j) (fA : ∀ j, j < 24 * (30 + m) + po_n inl y_length m k → A' j = A j) : pv_p C M R x_isInterfaceClass x_ancestorsOf x_interfacesOf x_chainOf y_parent y_many x_homeOf x_ruleKind x_ruleClasses x_ruleNames x_formOf x_nameOf y_isAbstract y_name y_length y_op y_first y_second inl nv m k L' O' P' N' S' U' A' := by
  obtain ⟨T, z2, z3, z4⟩ := z
  have h30 := T.2.2.1.1
  refine ⟨tp_fr T (fun _ _ => rfl) (fun _ _ => rfl) (fun j hj => fL j (by omega)) (fun j hj => fO j (by omega)) (fun j hj => fP j (by omega)) (fun j hj => fN j (by omega)) (fun j hj => fS j (by omega)) (fun j hj => fU j (by omega)) (fun j hj => fA j (by omega)), fun m' hm' => ?_, fun x hx => ?_, fun m' x hm' hx => ?_⟩
  · have l6 := (tp_len T (m := m') (by omega)).2.2
    obtain ⟨a, b⟩ := z2 m' hm'
    refine ⟨by rw [fL _ (by omega)]; exact a, fun x hx => ?_⟩
    have := po_24 h h30 (m := m') (by omega) (x := x + 1) (by omega)
    exact lc_fr h h30 (by omega) hx l6 (B := 24 * (30 + m) + po_n inl y_length m k) (by omega) fO fP fN fS fU fA (b x hx)
  · have l6 := (tp_len T hm).2.2
    have := ps_mo (gr := gy_n inl y_length m) (x := x + 1) (y := k) (by omega)
    exact lc_fr h h30 hm (by omega) l6 (B := 24 * (30 + m) + po_n inl y_length m k) (by unfold po_n; omega) fO fP fN fS fU fA (z3 x hx)
  · have l6 := (tp_len T hm').2.2
    rw [fN _ (by omega)]; exact z4 m' x hm' hx
theorem xy_v {post : SX → Prop} {fr row l : Nat} {ia : Int32} (hf : fr < 1440) (hr : row < 60) (el : x_lengthOf row = nI l) (hl : 24 * row + l < 1440)
    (hp : post (x_classCount, x_methodCount, x_ruleCount, x_isBuilt, x_faultPlace, x_namedClasses, x_madeClasses, x_namedMethods, x_liveMethods, x_depth, x_stepCount, x_outCount, x_traceCount, x_isInterfaceClass, x_chainOf, x_interfacesOf, x_ancestorsOf, x_homeOf, x_formOf, x_nameOf, upd x_lengthOf row (nI (l + 1)), upd x_opOf (24 * row + l) (x_opOf fr), upd x_classOf (24 * row + l) (x_classOf fr), upd x_numberOf (24 * row + l) (x_numberOf fr), upd x_sourceMethod (24 * row + l) (x_sourceMethod fr), upd x_sourceLine (24 * row + l) (x_sourceLine fr), upd x_callLine (24 * row + l) ia, x_ruleKind, x_ruleClasses, x_ruleNames, x_newNumber, x_familyOf, x_sightOf, x_frameRow, x_frameLine, x_frameHeld, x_outInts, x_traceMethod, x_traceLine)) :
    wpX_copyInstruction post (x_classCount, x_methodCount, x_ruleCount, x_isBuilt, x_faultPlace, x_namedClasses, x_madeClasses, x_namedMethods, x_liveMethods, x_depth, x_stepCount, x_outCount, x_traceCount, x_isInterfaceClass, x_chainOf, x_interfacesOf, x_ancestorsOf, x_homeOf, x_formOf, x_nameOf, x_lengthOf, x_opOf, x_classOf, x_numberOf, x_sourceMethod, x_sourceLine, x_callLine, x_ruleKind, x_ruleClasses, x_ruleNames, x_newNumber, x_familyOf, x_sightOf, x_frameRow, x_frameLine, x_frameHeld, x_outInts, x_traceMethod, x_traceLine) (nI fr) (nI row) ia := by
  unfold wpX_copyInstruction
  dsimp only
  rw [nI_c (show fr < 10000 by omega), nI_c (show row < 10000 by omega), el, nI_a24, nI_1]
  refine ⟨vp_in_nI hr (by decide), nm_e ?_⟩
  rw [nI_c (show 24 * row + l < 10000 by omega)]
  have i1 : vp_in (nI fr) 1440 := vp_in_nI hf (by decide)
  have i2 : vp_in (nI (24 * row + l)) 1440 := vp_in_nI hl (by decide)
  have i3 : vp_in (nI row) 60 := vp_in_nI hr (by decide)
  exact ⟨i1, i2, nm_e ⟨i1, i2, nm_e ⟨i1, i2, nm_e ⟨i1, i2, nm_e ⟨i1, i2, nm_e ⟨i2, nm_e ⟨i3, i3, nm_e hp⟩⟩⟩⟩⟩⟩⟩
end
end
section
/-! ===== X's inlining ===== -/
theorem in_il {C M : Nat} {anc chn hom yabs yname ylen yop yfi yse inl : Nat → Int32} {D Lv : Int32} (h6 : ∀ m, m < M → hq_t (ylen m) ≤ 6)
    (h : ∀ m k, m < M → k < 6 → il_p C M anc chn hom yabs yname ylen yop yfi yse D Lv m k (inl (6 * m + k))) : in_ok M inl ylen := fun m x hm hx => by
  have := h6 m hm
  rcases h m x hm (by omega) with ⟨e, _⟩ | ⟨t, e, i⟩
  · exact Or.inl e
  · exact Or.inr ⟨t, i.2.2.1, e, i.2.2.2.2.2.1⟩
theorem tg_u {C : Nat} {anc : Nat → Int32} {D : Int32} {F : Nat → Int32 → Option Nat} {o c n : Int32} {t s : Nat} (tt : tg_p C anc D F o c n t) (hs : tg_p C anc D F o c n s) : t = s := by
  rcases tt with ⟨p1, p2⟩ | ⟨p1, ⟨d, d1, d2, d3⟩, p2⟩
  · rcases hs with ⟨r1, r2⟩ | ⟨r1, _, r2⟩
    · rw [p2] at r2; simpa using r2
    · rw [p1] at r1; exact absurd r1 (by decide)
  · rcases hs with ⟨r1, r2⟩ | ⟨r1, _, r2⟩
    · rw [p1] at r1; exact absurd r1 (by decide)
    · have x := p2 d d1 d2 d3
      rw [r2 d d1 d2 d3] at x
      simpa using x.symm
section
variable {x_classCount x_methodCount x_ruleCount x_isBuilt x_faultPlace x_namedClasses x_madeClasses x_namedMethods x_liveMethods x_depth x_stepCount x_outCount x_traceCount : Int32} {x_isInterfaceClass x_chainOf x_interfacesOf x_ancestorsOf x_homeOf x_formOf x_nameOf x_lengthOf x_opOf x_classOf x_numberOf x_sourceMethod x_sourceLine x_callLine x_ruleKind x_ruleClasses x_ruleNames x_newNumber x_familyOf x_sightOf x_frameRow x_frameLine x_frameHeld x_outInts x_traceMethod x_traceLine : Nat → Int32} {y_parent y_many y_isAbstract y_name y_length y_op y_first y_second : Nat → Int32} {C M R : Nat} {inl : Nat → Int32} {nv : Nat → Nat → Int32} {L O P N S U A : Nat → Int32}
theorem xe_l (hi : in_ok M inl y_length) {post : SX → Prop} {m k t : Nat} (hm : m < M) (hk : k < hq_t (y_length m)) (ht : t < M) (l3 : hq_t (y_length t) ≤ 3) (ho : ∀ i, i < hq_t (y_length t) → y_op (6 * t + i) = 0 ∨ y_op (6 * t + i) = 5)
    (K : ∀ L O P N S U A i, i = hq_t (y_length t) → pv_p C M R x_isInterfaceClass x_ancestorsOf x_interfacesOf x_chainOf y_parent y_many x_homeOf x_ruleKind x_ruleClasses x_ruleNames x_formOf x_nameOf y_isAbstract y_name y_length y_op y_first y_second inl nv m k L O P N S U A → L (30 + m) = nI (po_n inl y_length m k + 1 + i) → (O (24 * (30 + m) + po_n inl y_length m k) = 6 ∧ P (24 * (30 + m) + po_n inl y_length m k) = (if O (24 * m + k) = 3 then -1 else P (24 * m + k)) ∧ N (24 * (30 + m) + po_n inl y_length m k) = 0 ∧ S (24 * (30 + m) + po_n inl y_length m k) = nI m ∧ U (24 * (30 + m) + po_n inl y_length m k) = nI k ∧ A (24 * (30 + m) + po_n inl y_length m k) = -1 ∧ ∀ j, j < i → O (24 * (30 + m) + po_n inl y_length m k + 1 + j) = O (24 * t + j) ∧ P (24 * (30 + m) + po_n inl y_length m k + 1 + j) = -1 ∧ N (24 * (30 + m) + po_n inl y_length m k + 1 + j) = N (24 * t + j) ∧ S (24 * (30 + m) + po_n inl y_length m k + 1 + j) = nI t ∧ U (24 * (30 + m) + po_n inl y_length m k + 1 + j) = nI j ∧ A (24 * (30 + m) + po_n inl y_length m k + 1 + j) = nI k) → post (x_classCount, x_methodCount, x_ruleCount, x_isBuilt, x_faultPlace, x_namedClasses, x_madeClasses, x_namedMethods, x_liveMethods, x_depth, x_stepCount, x_outCount, x_traceCount, x_isInterfaceClass, x_chainOf, x_interfacesOf, x_ancestorsOf, x_homeOf, x_formOf, x_nameOf, L, O, P, N, S, U, A, x_ruleKind, x_ruleClasses, x_ruleNames, x_newNumber, x_familyOf, x_sightOf, x_frameRow, x_frameLine, x_frameHeld, x_outInts, x_traceMethod, x_traceLine)) :
    ∀ q i f L O P N S U A, i + q = hq_t (y_length t) → q < f → pv_p C M R x_isInterfaceClass x_ancestorsOf x_interfacesOf x_chainOf y_parent y_many x_homeOf x_ruleKind x_ruleClasses x_ruleNames x_formOf x_nameOf y_isAbstract y_name y_length y_op y_first y_second inl nv m k L O P N S U A → L (30 + m) = nI (po_n inl y_length m k + 1 + i) → (O (24 * (30 + m) + po_n inl y_length m k) = 6 ∧ P (24 * (30 + m) + po_n inl y_length m k) = (if O (24 * m + k) = 3 then -1 else P (24 * m + k)) ∧ N (24 * (30 + m) + po_n inl y_length m k) = 0 ∧ S (24 * (30 + m) + po_n inl y_length m k) = nI m ∧ U (24 * (30 + m) + po_n inl y_length m k) = nI k ∧ A (24 * (30 + m) + po_n inl y_length m k) = -1 ∧ ∀ j, j < i → O (24 * (30 + m) + po_n inl y_length m k + 1 + j) = O (24 * t + j) ∧ P (24 * (30 + m) + po_n inl y_length m k + 1 + j) = -1 ∧ N (24 * (30 + m) + po_n inl y_length m k + 1 + j) = N (24 * t + j) ∧ S (24 * (30 + m) + po_n inl y_length m k + 1 + j) = nI t ∧ U (24 * (30 + m) + po_n inl y_length m k + 1 + j) = nI j ∧ A (24 * (30 + m) + po_n inl y_length m k + 1 + j) = nI k) →
      wX_enterTarget_66 post (nI (24 * m + k)) (nI (30 + m)) (nI t) (nI (hq_t (y_length t))) f (nI i) x_classCount x_methodCount x_ruleCount x_isBuilt x_faultPlace x_namedClasses x_madeClasses x_namedMethods x_liveMethods x_depth x_stepCount x_outCount x_traceCount x_isInterfaceClass x_chainOf x_interfacesOf x_ancestorsOf x_homeOf x_formOf x_nameOf L O P N S U A x_ruleKind x_ruleClasses x_ruleNames x_newNumber x_familyOf x_sightOf x_frameRow x_frameLine x_frameHeld x_outInts x_traceMethod x_traceLine := by
  intro q
  induction q with
  | zero =>
    intro i f L O P N S U A e hf z l h
    obtain ⟨f, rfl⟩ : ∃ q, f = q + 1 := ⟨f - 1, by omega⟩
    rw [wX_enterTarget_66]
    exact br_t (nI_le (by omega) (by omega)) (K L O P N S U A i (by omega) z l h)
  | succ q ih =>
    intro i f L O P N S U A e hf z l h
    obtain ⟨f, rfl⟩ : ∃ q, f = q + 1 := ⟨f - 1, by omega⟩
    have T := z.1
    have h30 := T.2.2.1.1
    have l6 := (tp_len T hm).2.2
    have p24 := po_24 hi h30 hm (x := k) (by omega)
    have p20 := ps_4 (gy_4 hi h30 hm) k
    have p20 : po_n inl y_length m k ≤ 4 * k := p20
    obtain ⟨o1, _, _, _, _, _, _, _, _, _, u1, _⟩ := T.2.2.2.2.2.1 m k hm hk
    obtain ⟨o2, o6, eo, eyo, _, ecl, _, _, _, esm, esl, _⟩ := T.2.2.2.2.2.1 t i ht (by omega)
    have oo : ¬ (1 ≤ o2 ∧ o2 ≤ 4) := by
      rcases ho i (by omega) with w | w
      · rw [eyo] at w; have := (nI_eq (a := o2) (b := 0) (by omega) (by omega)).mp w; omega
      · rw [eyo] at w; have := (nI_eq (a := o2) (b := 5) (by omega) (by omega)).mp w; omega
    have eB : 24 * (30 + m) + po_n inl y_length m k + 1 + i = 24 * (30 + m) + (po_n inl y_length m k + 1 + i) := by omega
    rw [wX_enterTarget_66]
    refine br_f (nI_ge (by omega) (by omega)) ⟨vp_in_nI (by omega) (by decide), ?_⟩
    rw [nI_c (by omega), nI_a24, u1]
    refine xy_v (by omega) (by omega) l (by omega) (nm_r (nI_1 i) (ih (i + 1) f _ _ _ _ _ _ _ (by omega) (by omega) (pv_fr hi hm (by omega) z (fun j hj => pk_un (by omega)) (fun j hj => pk_un (by omega)) (fun j hj => pk_un (by omega)) (fun j hj => pk_un (by omega)) (fun j hj => pk_un (by omega)) (fun j hj => pk_un (by omega)) (fun j hj => pk_un (by omega))) ?_ ?_))
    · rw [pk_us]
      exact congrArg nI (by omega)
    · obtain ⟨q1, q2, q3, q4, q5, q6, q7⟩ := h
      refine ⟨?_, ?_, ?_, ?_, ?_, ?_, fun j hj => ?_⟩
      · rw [pk_un (by omega)]; exact q1
      · rw [pk_un (by omega), pk_un (by omega), pk_un (by omega)]; exact q2
      · rw [pk_un (by omega)]; exact q3
      · rw [pk_un (by omega)]; exact q4
      · rw [pk_un (by omega)]; exact q5
      · rw [pk_un (by omega)]; exact q6
      · rcases Nat.lt_or_ge j i with v | v
        · rw [pk_un (by omega), pk_un (by omega), pk_un (by omega), pk_un (by omega), pk_un (by omega), pk_un (by omega), pk_un (by omega), pk_un (by omega)]
          exact q7 j v
        · have : j = i := by omega
          subst this
          rw [eB, pk_us, pk_us, pk_us, pk_us, pk_us, pk_us, pk_un (by omega), pk_un (by omega)]
          exact ⟨rfl, ecl oo, rfl, esm, esl, rfl⟩
/-- a line that is INLINED -/
theorem xe_v (hi : in_ok M inl y_length) {post : SX → Prop} {m k t : Nat} (hm : m < M) (hk : k < hq_t (y_length m)) (ht : t < M) (l3 : hq_t (y_length t) ≤ 3) (ho : ∀ i, i < hq_t (y_length t) → y_op (6 * t + i) = 0 ∨ y_op (6 * t + i) = 5)
    (et : inl (6 * m + k) = nI t) (z : pv_p C M R x_isInterfaceClass x_ancestorsOf x_interfacesOf x_chainOf y_parent y_many x_homeOf x_ruleKind x_ruleClasses x_ruleNames x_formOf x_nameOf y_isAbstract y_name y_length y_op y_first y_second inl nv m k L O P N S U A) (l : L (30 + m) = nI (po_n inl y_length m k))
    (K : ∀ L O P N S U A, pv_p C M R x_isInterfaceClass x_ancestorsOf x_interfacesOf x_chainOf y_parent y_many x_homeOf x_ruleKind x_ruleClasses x_ruleNames x_formOf x_nameOf y_isAbstract y_name y_length y_op y_first y_second inl nv m (k + 1) L O P N S U A → L (30 + m) = nI (po_n inl y_length m (k + 1)) → post (x_classCount, x_methodCount, x_ruleCount, x_isBuilt, x_faultPlace, x_namedClasses, x_madeClasses, x_namedMethods, x_liveMethods, x_depth, x_stepCount, x_outCount, x_traceCount, x_isInterfaceClass, x_chainOf, x_interfacesOf, x_ancestorsOf, x_homeOf, x_formOf, x_nameOf, L, O, P, N, S, U, A, x_ruleKind, x_ruleClasses, x_ruleNames, x_newNumber, x_familyOf, x_sightOf, x_frameRow, x_frameLine, x_frameHeld, x_outInts, x_traceMethod, x_traceLine)) : wpX_enterTarget post (x_classCount, x_methodCount, x_ruleCount, x_isBuilt, x_faultPlace, x_namedClasses, x_madeClasses, x_namedMethods, x_liveMethods, x_depth, x_stepCount, x_outCount, x_traceCount, x_isInterfaceClass, x_chainOf, x_interfacesOf, x_ancestorsOf, x_homeOf, x_formOf, x_nameOf, L, O, P, N, S, U, A, x_ruleKind, x_ruleClasses, x_ruleNames, x_newNumber, x_familyOf, x_sightOf, x_frameRow, x_frameLine, x_frameHeld, x_outInts, x_traceMethod, x_traceLine) (nI (24 * m + k)) (30 + nI m) (nI t) := by
  have T := z.1
  have h30 := T.2.2.1.1
  have l6 := (tp_len T hm).2.2
  obtain ⟨lt1, lt2, _⟩ := tp_len T ht
  have p20 : po_n inl y_length m k ≤ 4 * k := ps_4 (gy_4 hi h30 hm) k
  obtain ⟨o1, _, _, _, _, _, _, _, _, s1, u1, _⟩ := T.2.2.2.2.2.1 m k hm hk
  have nneg : ¬ inl (6 * m + k) < 0 := by rw [et]; exact nI_pos (by omega)
  have hte : hq_t (inl (6 * m + k)) = t := by rw [et]; exact hq_e (by omega)
  have gr := gy_t hk nneg
  rw [hte] at gr
  have K' : ∀ L O P N S U A i, i = hq_t (y_length t) → pv_p C M R x_isInterfaceClass x_ancestorsOf x_interfacesOf x_chainOf y_parent y_many x_homeOf x_ruleKind x_ruleClasses x_ruleNames x_formOf x_nameOf y_isAbstract y_name y_length y_op y_first y_second inl nv m k L O P N S U A → L (30 + m) = nI (po_n inl y_length m k + 1 + i) → (O (24 * (30 + m) + po_n inl y_length m k) = 6 ∧ P (24 * (30 + m) + po_n inl y_length m k) = (if O (24 * m + k) = 3 then -1 else P (24 * m + k)) ∧ N (24 * (30 + m) + po_n inl y_length m k) = 0 ∧ S (24 * (30 + m) + po_n inl y_length m k) = nI m ∧ U (24 * (30 + m) + po_n inl y_length m k) = nI k ∧ A (24 * (30 + m) + po_n inl y_length m k) = -1 ∧ ∀ j, j < i → O (24 * (30 + m) + po_n inl y_length m k + 1 + j) = O (24 * t + j) ∧ P (24 * (30 + m) + po_n inl y_length m k + 1 + j) = -1 ∧ N (24 * (30 + m) + po_n inl y_length m k + 1 + j) = N (24 * t + j) ∧ S (24 * (30 + m) + po_n inl y_length m k + 1 + j) = nI t ∧ U (24 * (30 + m) + po_n inl y_length m k + 1 + j) = nI j ∧ A (24 * (30 + m) + po_n inl y_length m k + 1 + j) = nI k) → post (x_classCount, x_methodCount, x_ruleCount, x_isBuilt, x_faultPlace, x_namedClasses, x_madeClasses, x_namedMethods, x_liveMethods, x_depth, x_stepCount, x_outCount, x_traceCount, x_isInterfaceClass, x_chainOf, x_interfacesOf, x_ancestorsOf, x_homeOf, x_formOf, x_nameOf, L, O, P, N, S, U, A, x_ruleKind, x_ruleClasses, x_ruleNames, x_newNumber, x_familyOf, x_sightOf, x_frameRow, x_frameLine, x_frameHeld, x_outInts, x_traceMethod, x_traceLine) := fun L O P N S U A i ei z l h => by
    subst ei
    obtain ⟨z1, z2, z3, z4⟩ := z
    obtain ⟨q1, q2, q3, q4, q5, q6, q7⟩ := h
    refine K L O P N S U A ⟨z1, z2, fun x hx => ?_, z4⟩ ?_
    · rcases Nat.lt_or_ge x k with v | v
      · exact z3 x v
      · have : x = k := by omega
        subst this
        refine ⟨fun y => absurd y nneg, fun _ => ⟨q1, q2, q3, fun j hj => ?_⟩, q4, q5, q6⟩
        rw [hte] at hj ⊢
        rw [et]
        exact q7 j hj
    · rw [l, po_s, gr]; exact congrArg nI (by omega)
  unfold wpX_enterTarget
  dsimp only
  rw [nI_b30]
  refine ⟨vp_in_nI (by omega) (by decide), ?_⟩
  rw [nI_c (show 30 + m < 10000 by omega), l, nI_a24]
  refine nm_e (xy_v (by omega) (by omega) l (by omega) ?_)
  dsimp only
  have iB : vp_in (nI (24 * (30 + m) + po_n inl y_length m k)) 1440 := vp_in_nI (by omega) (by decide)
  rw [nI_c (show 24 * (30 + m) + po_n inl y_length m k < 10000 by omega), nI_c (show 24 * m + k < 10000 by omega), nI_c (show t < 10000 by omega)]
  refine ⟨iB, nm_e ⟨iB, nm_e ⟨vp_in_nI (by omega) (by decide), ?_⟩⟩⟩
  rw [pk_un (by omega : 24 * m + k ≠ 24 * (30 + m) + po_n inl y_length m k), pk_un (by omega : 24 * m + k ≠ 24 * (30 + m) + po_n inl y_length m k), pk_un (by omega : t ≠ 30 + m), lt1]
  have fr : ∀ (f : Nat → Int32) (v w : Int32) j, j < 24 * (30 + m) + po_n inl y_length m k → upd (upd f (24 * (30 + m) + po_n inl y_length m k) v) (24 * (30 + m) + po_n inl y_length m k) w j = f j := fun f v w j hj => by rw [pk_un (by omega), pk_un (by omega)]
  have fr1 : ∀ (f : Nat → Int32) (v : Int32) j, j < 24 * (30 + m) + po_n inl y_length m k → upd f (24 * (30 + m) + po_n inl y_length m k) v j = f j := fun f v j hj => pk_un (by omega)
  refine br_c (fun c3 => ⟨iB, nm_e ⟨vp_in_nI (by omega) (by decide), nm_e ⟨hq_t (y_length t) + 1, ?_⟩⟩⟩) (fun c3 => ⟨vp_in_nI (by omega) (by decide), nm_e ⟨hq_t (y_length t) + 1, ?_⟩⟩)
  · refine xe_l hi hm hk ht l3 ho K' _ 0 _ _ _ _ _ _ _ _ (Nat.zero_add _) (by omega) (pv_fr hi hm (by omega) z (fun j hj => pk_un (by omega)) (fr _ _ _) (fr _ _ _) (fr _ _ _) (fr1 _ _) (fr1 _ _) (fr1 _ _)) pk_us ⟨pk_us, ?_, pk_us, ?_, ?_, pk_us, fun j hj => by omega⟩
    · rw [pk_us, pk_un (by omega), pk_un (by omega), if_pos c3]
    · rw [pk_us]; exact s1
    · rw [pk_us]; exact u1
  · refine xe_l hi hm hk ht l3 ho K' _ 0 _ _ _ _ _ _ _ _ (Nat.zero_add _) (by omega) (pv_fr hi hm (by omega) z (fun j hj => pk_un (by omega)) (fr _ _ _) (fr1 _ _) (fr _ _ _) (fr1 _ _) (fr1 _ _) (fr1 _ _)) pk_us ⟨pk_us, ?_, pk_us, ?_, ?_, pk_us, fun j hj => by omega⟩
    · rw [pk_us, pk_un (by omega), pk_un (by omega), if_neg c3, pk_un (by omega)]
    · rw [pk_us]; exact s1
    · rw [pk_us]; exact u1
/-- a line that is copied -/
theorem xe_c (hi : in_ok M inl y_length) {post : SX → Prop} {m k : Nat} (hm : m < M) (hk : k < hq_t (y_length m)) (et : inl (6 * m + k) = -1) (z : pv_p C M R x_isInterfaceClass x_ancestorsOf x_interfacesOf x_chainOf y_parent y_many x_homeOf x_ruleKind x_ruleClasses x_ruleNames x_formOf x_nameOf y_isAbstract y_name y_length y_op y_first y_second inl nv m k L O P N S U A) (l : L (30 + m) = nI (po_n inl y_length m k))
    (K : ∀ L O P N S U A, pv_p C M R x_isInterfaceClass x_ancestorsOf x_interfacesOf x_chainOf y_parent y_many x_homeOf x_ruleKind x_ruleClasses x_ruleNames x_formOf x_nameOf y_isAbstract y_name y_length y_op y_first y_second inl nv m (k + 1) L O P N S U A → L (30 + m) = nI (po_n inl y_length m (k + 1)) → post (x_classCount, x_methodCount, x_ruleCount, x_isBuilt, x_faultPlace, x_namedClasses, x_madeClasses, x_namedMethods, x_liveMethods, x_depth, x_stepCount, x_outCount, x_traceCount, x_isInterfaceClass, x_chainOf, x_interfacesOf, x_ancestorsOf, x_homeOf, x_formOf, x_nameOf, L, O, P, N, S, U, A, x_ruleKind, x_ruleClasses, x_ruleNames, x_newNumber, x_familyOf, x_sightOf, x_frameRow, x_frameLine, x_frameHeld, x_outInts, x_traceMethod, x_traceLine)) : wpX_copyInstruction post (x_classCount, x_methodCount, x_ruleCount, x_isBuilt, x_faultPlace, x_namedClasses, x_madeClasses, x_namedMethods, x_liveMethods, x_depth, x_stepCount, x_outCount, x_traceCount, x_isInterfaceClass, x_chainOf, x_interfacesOf, x_ancestorsOf, x_homeOf, x_formOf, x_nameOf, L, O, P, N, S, U, A, x_ruleKind, x_ruleClasses, x_ruleNames, x_newNumber, x_familyOf, x_sightOf, x_frameRow, x_frameLine, x_frameHeld, x_outInts, x_traceMethod, x_traceLine) (nI (24 * m + k)) (30 + nI m) (-1) := by
  have T := z.1
  have h30 := T.2.2.1.1
  have l6 := (tp_len T hm).2.2
  have p20 : po_n inl y_length m k ≤ 4 * k := ps_4 (gy_4 hi h30 hm) k
  obtain ⟨o1, _, _, _, _, _, _, _, _, s1, u1, _⟩ := T.2.2.2.2.2.1 m k hm hk
  have neg : inl (6 * m + k) < 0 := by rw [et]; decide
  have z4 := z.2.2.2
  rw [nI_b30]
  refine xy_v (by omega) (by omega) l (by omega) ?_
  have pv := pv_fr (L' := upd L (30 + m) (nI (po_n inl y_length m k + 1))) (O' := upd O (24 * (30 + m) + po_n inl y_length m k) (O (24 * m + k))) (P' := upd P (24 * (30 + m) + po_n inl y_length m k) (P (24 * m + k))) (N' := upd N (24 * (30 + m) + po_n inl y_length m k) (N (24 * m + k))) (S' := upd S (24 * (30 + m) + po_n inl y_length m k) (S (24 * m + k))) (U' := upd U (24 * (30 + m) + po_n inl y_length m k) (U (24 * m + k))) (A' := upd A (24 * (30 + m) + po_n inl y_length m k) (-1))
    hi hm (Nat.le_of_lt hk) z (fun j hj => pk_un (by omega)) (fun j hj => pk_un (by omega)) (fun j hj => pk_un (by omega)) (fun j hj => pk_un (by omega)) (fun j hj => pk_un (by omega)) (fun j hj => pk_un (by omega)) (fun j hj => pk_un (by omega))
  refine K _ _ _ _ _ _ _ ⟨pv.1, pv.2.1, fun x hx => ?_, pv.2.2.2⟩ ?_
  · rcases Nat.lt_or_ge x k with v | v
    · exact pv.2.2.1 x v
    · have : x = k := by omega
      subst this
      refine ⟨fun _ => ⟨?_, ?_, ?_⟩, fun y => absurd neg y, ?_, ?_, pk_us⟩
      · rw [pk_us, pk_un (by omega)]
      · rw [pk_us, pk_un (by omega)]
      · rw [pk_us]; exact z4 m x hm hk
      · rw [pk_us]; exact s1
      · rw [pk_us]; exact u1
  · rw [pk_us, po_s, gy_1 neg]
end
end
section
/-! ===== X's inlining: the loops ===== -/
section
variable {x_classCount x_methodCount x_ruleCount x_isBuilt x_faultPlace x_namedClasses x_madeClasses x_namedMethods x_liveMethods x_depth x_stepCount x_outCount x_traceCount : Int32} {x_isInterfaceClass x_chainOf x_interfacesOf x_ancestorsOf x_homeOf x_formOf x_nameOf x_lengthOf x_opOf x_classOf x_numberOf x_sourceMethod x_sourceLine x_callLine x_ruleKind x_ruleClasses x_ruleNames x_newNumber x_familyOf x_sightOf x_frameRow x_frameLine x_frameHeld x_outInts x_traceMethod x_traceLine : Nat → Int32} {y_parent y_many y_isAbstract y_name y_length y_op y_first y_second : Nat → Int32} {C M R : Nat} {inl : Nat → Int32} {nv : Nat → Nat → Int32}
theorem xg_l (NF : ff_v C M x_isInterfaceClass x_ancestorsOf x_chainOf x_homeOf y_isAbstract y_name y_length y_op y_first y_second = none) (hC : x_classCount = nI C) (hM : x_methodCount = nI M) (hI : ∀ m k, m < M → k < 6 → il_p C M x_ancestorsOf x_chainOf x_homeOf y_isAbstract y_name y_length y_op y_first y_second x_madeClasses x_liveMethods m k (inl (6 * m + k))) (hi : in_ok M inl y_length) {post : SX → Prop} {J2 : Int32 → Int32 → Int32 → Int32 → Int32 → Int32 → Int32 → Int32 → Int32 → Int32 → Int32 → Int32 → Int32 → Int32 → (Nat → Int32) → (Nat → Int32) → (Nat → Int32) → (Nat → Int32) → (Nat → Int32) → (Nat → Int32) → (Nat → Int32) → (Nat → Int32) → (Nat → Int32) → (Nat → Int32) → (Nat → Int32) → (Nat → Int32) → (Nat → Int32) → (Nat → Int32) → (Nat → Int32) → (Nat → Int32) → (Nat → Int32) → (Nat → Int32) → (Nat → Int32) → (Nat → Int32) → (Nat → Int32) → (Nat → Int32) → (Nat → Int32) → (Nat → Int32) → (Nat → Int32) → (Nat → Int32) → Prop} {m : Nat} (hm : m < M)
    (K : ∀ L O P N S U A, pv_p C M R x_isInterfaceClass x_ancestorsOf x_interfacesOf x_chainOf y_parent y_many x_homeOf x_ruleKind x_ruleClasses x_ruleNames x_formOf x_nameOf y_isAbstract y_name y_length y_op y_first y_second inl nv m (hq_t (y_length m)) L O P N S U A → L (30 + m) = nI (po_n inl y_length m (hq_t (y_length m))) → J2 (nI (m + 1)) x_classCount x_methodCount x_ruleCount x_isBuilt x_faultPlace x_namedClasses x_madeClasses x_namedMethods x_liveMethods x_depth x_stepCount x_outCount x_traceCount x_isInterfaceClass x_chainOf x_interfacesOf x_ancestorsOf x_homeOf x_formOf x_nameOf L O P N S U A x_ruleKind x_ruleClasses x_ruleNames x_newNumber x_familyOf x_sightOf x_frameRow x_frameLine x_frameHeld x_outInts x_traceMethod x_traceLine) :
    ∀ q k f L O P N S U A, k + q = hq_t (y_length m) → q < f → pv_p C M R x_isInterfaceClass x_ancestorsOf x_interfacesOf x_chainOf y_parent y_many x_homeOf x_ruleKind x_ruleClasses x_ruleNames x_formOf x_nameOf y_isAbstract y_name y_length y_op y_first y_second inl nv m k L O P N S U A → L (30 + m) = nI (po_n inl y_length m k) →
      wX_inlineShortMethods_29 post J2 (nI m) (nI (hq_t (y_length m))) f (nI k) x_classCount x_methodCount x_ruleCount x_isBuilt x_faultPlace x_namedClasses x_madeClasses x_namedMethods x_liveMethods x_depth x_stepCount x_outCount x_traceCount x_isInterfaceClass x_chainOf x_interfacesOf x_ancestorsOf x_homeOf x_formOf x_nameOf L O P N S U A x_ruleKind x_ruleClasses x_ruleNames x_newNumber x_familyOf x_sightOf x_frameRow x_frameLine x_frameHeld x_outInts x_traceMethod x_traceLine := by
  intro q
  induction q with
  | zero =>
    intro k f L O P N S U A e hf z l
    obtain ⟨f, rfl⟩ : ∃ q, f = q + 1 := ⟨f - 1, by omega⟩
    have e : k = hq_t (y_length m) := by omega
    subst e
    have l6 := (tp_len z.1 hm).2.2
    rw [wX_inlineShortMethods_29]
    exact br_t (nI_le (by omega) (by omega)) (nm_r (nI_1 m) (K L O P N S U A z l))
  | succ q ih =>
    intro k f L O P N S U A e hf z l
    obtain ⟨f, rfl⟩ : ∃ q, f = q + 1 := ⟨f - 1, by omega⟩
    have T := z.1
    have h30 := T.2.2.1.1
    have l6 := (tp_len T hm).2.2
    have hk : k < hq_t (y_length m) := by omega
    have cp : (∀ t, ¬ it_p C M x_ancestorsOf x_chainOf x_homeOf y_isAbstract y_name y_length y_op y_first y_second x_madeClasses x_liveMethods m k t) →
        wX_inlineShortMethods_86 post J2 (wX_inlineShortMethods_29 post J2 (nI m) (nI (hq_t (y_length m))) f) (nI m) (nI (hq_t (y_length m))) (nI k) (nI (24 * m + k)) x_classCount x_methodCount x_ruleCount x_isBuilt x_faultPlace x_namedClasses x_madeClasses x_namedMethods x_liveMethods x_depth x_stepCount x_outCount x_traceCount x_isInterfaceClass x_chainOf x_interfacesOf x_ancestorsOf x_homeOf x_formOf x_nameOf L O P N S U A x_ruleKind x_ruleClasses x_ruleNames x_newNumber x_familyOf x_sightOf x_frameRow x_frameLine x_frameHeld x_outInts x_traceMethod x_traceLine := fun no => by
      have et : inl (6 * m + k) = -1 := by
        rcases hI m k hm (by omega) with ⟨e, _⟩ | ⟨t, _, i⟩
        · exact e
        · exact absurd i (no t)
      unfold wX_inlineShortMethods_86
      refine xe_c hi hm hk et z l (fun L' O' P' N' S' U' A' z' l' => ?_)
      exact nm_r (nI_1 k) (ih (k + 1) f L' O' P' N' S' U' A' (by omega) (by omega) z' l')
    rw [wX_inlineShortMethods_29]
    refine br_f (nI_ge (by omega) (by omega)) (nm_r (nI_a24 m k) (xh_b (by omega) (fun y => ?_) (fun y => ?_)))
    · refine xT_v T NF hC hM hm hk (fun t tM tt => ?_) (fun no => ?_)
      · unfold wX_inlineShortMethods_63
        refine br_f (oI_n (by omega)) (pk_eq t m (fun w => cp (fun s hs => ?_)) (fun w => xS_b T tM (fun ab sh => ?_) (fun ns => cp (fun s hs => ?_))))
        · rw [it_i] at hs
          have := tg_u tt hs.2.2.2.2.2.2
          exact hs.2.2.2.1 (by omega)
        · have et : inl (6 * m + k) = nI t := by
            rcases hI m k hm (by omega) with ⟨_, n⟩ | ⟨s, e, i⟩
            · exact absurd (it_i.mpr ⟨y, hk, tM, w, ab, sh, tt⟩) (n t)
            · rw [e, tg_u tt (it_i.mp i).2.2.2.2.2.2]
          refine xe_v hi hm hk tM sh.1 sh.2 et z l (fun L' O' P' N' S' U' A' z' l' => ?_)
          exact nm_r (nI_1 k) (ih (k + 1) f L' O' P' N' S' U' A' (by omega) (by omega) z' l')
        · rw [it_i] at hs
          have := tg_u tt hs.2.2.2.2.2.2
          subst this
          exact ns ⟨hs.2.2.2.2.1, hs.2.2.2.2.2.1⟩
      · unfold wX_inlineShortMethods_63
        refine br_t rfl (cp (fun s hs => ?_))
        rw [it_i] at hs
        exact no s hs.2.2.2.2.2.2
    · unfold wX_inlineShortMethods_63
      exact br_t rfl (cp (fun s hs => y hs.1))
theorem xg_v (T : tp_p C M R x_isInterfaceClass x_ancestorsOf x_interfacesOf x_chainOf y_parent y_many x_homeOf x_ruleKind x_ruleClasses x_ruleNames x_formOf x_nameOf x_lengthOf y_isAbstract y_name y_length x_opOf x_classOf x_numberOf x_sourceMethod x_sourceLine x_callLine y_op y_first y_second) (NF : ff_v C M x_isInterfaceClass x_ancestorsOf x_chainOf x_homeOf y_isAbstract y_name y_length y_op y_first y_second = none) (hC : x_classCount = nI C) (hM : x_methodCount = nI M) (hI : ∀ m k, m < M → k < 6 → il_p C M x_ancestorsOf x_chainOf x_homeOf y_isAbstract y_name y_length y_op y_first y_second x_madeClasses x_liveMethods m k (inl (6 * m + k))) (hn : ∀ m x, m < M → x < hq_t (y_length m) → x_numberOf (24 * m + x) = nv m x) {post : SX → Prop}
    (K : ∀ L O P N S U A, pv_p C M R x_isInterfaceClass x_ancestorsOf x_interfacesOf x_chainOf y_parent y_many x_homeOf x_ruleKind x_ruleClasses x_ruleNames x_formOf x_nameOf y_isAbstract y_name y_length y_op y_first y_second inl nv M 0 L O P N S U A → post (x_classCount, x_methodCount, x_ruleCount, x_isBuilt, x_faultPlace, x_namedClasses, x_madeClasses, x_namedMethods, x_liveMethods, x_depth, x_stepCount, x_outCount, x_traceCount, x_isInterfaceClass, x_chainOf, x_interfacesOf, x_ancestorsOf, x_homeOf, x_formOf, x_nameOf, L, O, P, N, S, U, A, x_ruleKind, x_ruleClasses, x_ruleNames, x_newNumber, x_familyOf, x_sightOf, x_frameRow, x_frameLine, x_frameHeld, x_outInts, x_traceMethod, x_traceLine)) : wpX_inlineShortMethods post (x_classCount, x_methodCount, x_ruleCount, x_isBuilt, x_faultPlace, x_namedClasses, x_madeClasses, x_namedMethods, x_liveMethods, x_depth, x_stepCount, x_outCount, x_traceCount, x_isInterfaceClass, x_chainOf, x_interfacesOf, x_ancestorsOf, x_homeOf, x_formOf, x_nameOf, x_lengthOf, x_opOf, x_classOf, x_numberOf, x_sourceMethod, x_sourceLine, x_callLine, x_ruleKind, x_ruleClasses, x_ruleNames, x_newNumber, x_familyOf, x_sightOf, x_frameRow, x_frameLine, x_frameHeld, x_outInts, x_traceMethod, x_traceLine) := by
  have h30 := T.2.2.1.1
  have hi : in_ok M inl y_length := in_il (fun m hm => (tp_len T hm).2.2) hI
  have lo : ∀ q m f L O P N S U A, m + q = M → q < f → pv_p C M R x_isInterfaceClass x_ancestorsOf x_interfacesOf x_chainOf y_parent y_many x_homeOf x_ruleKind x_ruleClasses x_ruleNames x_formOf x_nameOf y_isAbstract y_name y_length y_op y_first y_second inl nv m 0 L O P N S U A → wX_inlineShortMethods_2 post f (nI m) x_classCount x_methodCount x_ruleCount x_isBuilt x_faultPlace x_namedClasses x_madeClasses x_namedMethods x_liveMethods x_depth x_stepCount x_outCount x_traceCount x_isInterfaceClass x_chainOf x_interfacesOf x_ancestorsOf x_homeOf x_formOf x_nameOf L O P N S U A x_ruleKind x_ruleClasses x_ruleNames x_newNumber x_familyOf x_sightOf x_frameRow x_frameLine x_frameHeld x_outInts x_traceMethod x_traceLine := by
    intro q
    induction q with
    | zero =>
      intro m f L O P N S U A e hf z
      obtain ⟨f, rfl⟩ : ∃ q, f = q + 1 := ⟨f - 1, by omega⟩
      have e : m = M := by omega
      subst e
      rw [wX_inlineShortMethods_2]
      exact br_t (by rw [hM]; exact nI_le (by omega) (by omega)) (K L O P N S U A z)
    | succ q ih =>
      intro m f L O P N S U A e hf z
      obtain ⟨f, rfl⟩ : ∃ q, f = q + 1 := ⟨f - 1, by omega⟩
      have T := z.1
      have hm : m < M := by omega
      obtain ⟨l1, l2, l6⟩ := tp_len T hm
      rw [wX_inlineShortMethods_2]
      refine br_f (by rw [hM]; exact nI_ge (by omega) (by omega)) ⟨vp_in_nI (by omega) (by decide), ?_⟩
      rw [nI_c (show m < 10000 by omega), nI_b30]
      refine nm_r l1 ⟨vp_in_nI (by omega) (by decide), nm_e ⟨hq_t (y_length m) + 1, ?_⟩⟩
      rw [nI_c (show 30 + m < 10000 by omega)]
      refine xg_l NF hC hM hI hi hm (fun L' O' P' N' S' U' A' z' l' => ?_) (hq_t (y_length m)) 0 _ _ O P N S U A (by omega) (by omega)
        (pv_fr hi hm (by omega) z (fun j hj => pk_un (by omega)) (fun j hj => rfl) (fun j hj => rfl) (fun j hj => rfl) (fun j hj => rfl) (fun j hj => rfl) (fun j hj => rfl)) pk_us
      refine ih (m + 1) f L' O' P' N' S' U' A' (by omega) (by omega) ⟨z'.1, fun m' hm' => ?_, fun x hx => by omega, z'.2.2.2⟩
      rcases Nat.lt_or_ge m' m with v | v
      · exact z'.2.1 m' v
      · have : m' = m := by omega
        subst this; exact ⟨l', z'.2.2.1⟩
  unfold wpX_inlineShortMethods
  exact ⟨M + 1, lo M 0 (M + 1) _ _ _ _ _ _ _ (by omega) (by omega) ⟨T, fun m hm => by omega, fun x hx => by omega, hn⟩⟩
end
/-! ===== the new program asks the same of closed sets on both sides ===== -/
section
variable {y_parent y_many y_isAbstract y_name y_length y_op y_first y_second : Nat → Int32} {x_isInterfaceClass x_ancestorsOf x_interfacesOf x_chainOf x_homeOf x_ruleKind x_ruleClasses x_ruleNames x_formOf x_nameOf : Nat → Int32} {C M R : Nat} {inl : Nat → Int32} {nv : Nat → Nat → Int32} {L O P N S U A : Nat → Int32}
/-- a line as it was told -/
theorem ee_c (T : tp_p C M R x_isInterfaceClass x_ancestorsOf x_interfacesOf x_chainOf y_parent y_many x_homeOf x_ruleKind x_ruleClasses x_ruleNames x_formOf x_nameOf L y_isAbstract y_name y_length O P N S U A y_op y_first y_second) {m k : Nat} (hm : m < M) (hk : k < hq_t (y_length m)) (v : Prop) (nv : ¬ v) (Z : Nat → Nat → Prop) :
    ex_p C (fun m => y_isAbstract m = 0) x_ancestorsOf (fo_v M x_ancestorsOf x_chainOf x_homeOf y_name) (O (24 * m + k)) (P (24 * m + k)) (N (24 * m + k)) Z ↔ ef_p C x_ancestorsOf (fun m => y_isAbstract m = 0) (fo_v M x_ancestorsOf x_chainOf x_homeOf y_name) (y_op (6 * m + k)) (y_first (6 * m + k)) (y_second (6 * m + k)) v Z := by
  have h10 := T.1.1
  obtain ⟨o, o6, e1, e2, e3, e4, e5, _⟩ := T.2.2.2.2.2.1 m k hm hk
  rw [e1, e2]
  by_cases oc : 1 ≤ o ∧ o ≤ 4
  · obtain ⟨c, c10, f1, f2⟩ := e3 oc
    rw [f1, f2]
    have nc : ¬ nI c = -1 := oI_n (by omega)
    rcases (by omega : o = 1 ∨ o = 2 ∨ o = 3 ∨ o = 4) with q | q | q | q
    · subst q
      exact ⟨fun h => ⟨fun _ => ⟨(h nc).1, (h nc).2.1 rfl⟩, fun y => absurd y (by decide), fun y => absurd y (by decide), fun y => absurd y (by decide)⟩,
        fun h _ => ⟨(h.1 rfl).1, fun _ => (h.1 rfl).2, fun y => absurd y (by decide), fun y => absurd y (by decide)⟩⟩
    · subst q
      obtain ⟨n, n10, g1, g2⟩ := e5 (Or.inl rfl)
      rw [g1, g2]
      exact ⟨fun h => ⟨fun y => absurd y (by decide), fun y => absurd y (by decide), fun y => absurd y (by decide), fun _ => ⟨(h nc).1, fun _ => (h nc).2.2.2 rfl⟩⟩,
        fun h _ => ⟨(h.2.2.2 rfl).1, fun y => absurd y (by decide), fun y => absurd y (by decide), fun _ => (h.2.2.2 rfl).2 nv⟩⟩
    · subst q
      obtain ⟨n, n10, g1, g2⟩ := e5 (Or.inr rfl)
      rw [g1, g2]
      exact ⟨fun h => ⟨fun y => absurd y (by decide), fun y => absurd y (by decide), fun _ _ => ⟨(h nc).1, (h nc).2.2.1 rfl⟩, fun y => absurd y (by decide)⟩,
        fun h _ => ⟨(h.2.2.1 rfl nv).1, fun y => absurd y (by decide), fun _ => (h.2.2.1 rfl nv).2, fun y => absurd y (by decide)⟩⟩
    · subst q
      exact ⟨fun h => ⟨fun y => absurd y (by decide), fun _ => (h nc).1, fun y => absurd y (by decide), fun y => absurd y (by decide)⟩,
        fun h _ => ⟨h.2.1 rfl, fun y => absurd y (by decide), fun y => absurd y (by decide), fun y => absurd y (by decide)⟩⟩
  · rw [e4 oc]
    refine ⟨fun _ => ?_, fun _ y => absurd rfl y⟩
    rcases (by omega : o = 0 ∨ o = 5) with q | q
    · subst q; exact ⟨fun y => absurd y (by decide), fun y => absurd y (by decide), fun y => absurd y (by decide), fun y => absurd y (by decide)⟩
    · subst q; exact ⟨fun y => absurd y (by decide), fun y => absurd y (by decide), fun y => absurd y (by decide), fun y => absurd y (by decide)⟩
/-- the told program -/
theorem ee_0 (T : tp_p C M R x_isInterfaceClass x_ancestorsOf x_interfacesOf x_chainOf y_parent y_many x_homeOf x_ruleKind x_ruleClasses x_ruleNames x_formOf x_nameOf L y_isAbstract y_name y_length O P N S U A y_op y_first y_second) {m : Nat} (hm : m < M) (yin : Nat → Int32) (hin : ∀ k, k < hq_t (y_length m) → yin (6 * m + k) < 0) (Z : Nat → Nat → Prop) :
    ew_p C (fun m => y_isAbstract m = 0) x_ancestorsOf (fo_v M x_ancestorsOf x_chainOf x_homeOf y_name) L O P N 0 m Z ↔ ey_p C (fun m => y_isAbstract m = 0) x_ancestorsOf (fo_v M x_ancestorsOf x_chainOf x_homeOf y_name) y_length y_op y_first y_second yin m Z := by
  obtain ⟨l1, l2, _⟩ := tp_len T hm
  unfold ew_p ey_p
  rw [Nat.mul_zero, Nat.zero_add, l1, ← l2]
  exact ⟨fun h k hk => (ee_c T hm hk _ (fun q => q (hin k hk)) Z).mp (h k hk), fun h k hk => (ee_c T hm hk _ (fun q => q (hin k hk)) Z).mpr (h k hk)⟩
/-- the new program -/
theorem ee_1 (T : tp_p C M R x_isInterfaceClass x_ancestorsOf x_interfacesOf x_chainOf y_parent y_many x_homeOf x_ruleKind x_ruleClasses x_ruleNames x_formOf x_nameOf L y_isAbstract y_name y_length O P N S U A y_op y_first y_second) (hi : in_ok M inl y_length) {m : Nat} (hm : m < M) (hl : L (30 + m) = nI (po_n inl y_length m (hq_t (y_length m)))) (hc : ∀ x, x < hq_t (y_length m) → lc_p inl y_length O P N S U A nv m x)
    (hnv : ∀ x, x < hq_t (y_length m) → N (24 * m + x) = nv m x) (hop : ∀ x, x < hq_t (y_length m) → ¬ inl (6 * m + x) < 0 → O (24 * m + x) = 2 ∨ O (24 * m + x) = 3) (Z : Nat → Nat → Prop) :
    ew_p C (fun m => y_isAbstract m = 0) x_ancestorsOf (fo_v M x_ancestorsOf x_chainOf x_homeOf y_name) L O P N 1 m Z ↔ ey_p C (fun m => y_isAbstract m = 0) x_ancestorsOf (fo_v M x_ancestorsOf x_chainOf x_homeOf y_name) y_length y_op y_first y_second inl m Z := by
  have h30 := T.2.2.1.1
  have h10 := T.1.1
  obtain ⟨_, _, l6⟩ := tp_len T hm
  have p24 := po_24 hi h30 hm l6
  have he : hq_t (nI (po_n inl y_length m (hq_t (y_length m)))) = po_n inl y_length m (hq_t (y_length m)) := hq_e (by omega)
  -- the head cell of line x
  have head : ∀ x, x < hq_t (y_length m) → (ex_p C (fun m => y_isAbstract m = 0) x_ancestorsOf (fo_v M x_ancestorsOf x_chainOf x_homeOf y_name) (O (24 * (30 + m) + po_n inl y_length m x)) (P (24 * (30 + m) + po_n inl y_length m x)) (N (24 * (30 + m) + po_n inl y_length m x)) Z ↔
      ef_p C x_ancestorsOf (fun m => y_isAbstract m = 0) (fo_v M x_ancestorsOf x_chainOf x_homeOf y_name) (y_op (6 * m + x)) (y_first (6 * m + x)) (y_second (6 * m + x)) (¬ inl (6 * m + x) < 0) Z) := fun x hx => by
    obtain ⟨c1, c2, _⟩ := hc x hx
    by_cases n : inl (6 * m + x) < 0
    · obtain ⟨q1, q2, q3⟩ := c1 n
      rw [q1, q2, q3, ← hnv x hx]
      exact ee_c T hm hx _ (fun q => q n) Z
    · obtain ⟨q1, q2, q3, _⟩ := c2 n
      rw [q1, q2, q3]
      obtain ⟨o, o6, e1, e2, e3, _⟩ := T.2.2.2.2.2.1 m x hm hx
      have op := hop x hx n
      rw [e1] at op ⊢
      rw [e2]
      rcases op with w | w
      · have : o = 2 := (nI_eq (a := o) (b := 2) (by omega) (by omega)).mp w
        subst this
        obtain ⟨c, c10, f1, f2⟩ := e3 (by omega)
        rw [if_neg (by decide), f1, f2]
        have nc : ¬ nI c = -1 := oI_n (by omega)
        exact ⟨fun h => ⟨fun y => absurd y (by decide), fun y => absurd y (by decide), fun y => absurd y (by decide), fun _ => ⟨(h nc).1, fun y => absurd n y⟩⟩,
          fun h _ => ⟨(h.2.2.2 rfl).1, fun y => absurd y (by decide), fun y => absurd y (by decide), fun y => absurd y (by decide)⟩⟩
      · have : o = 3 := (nI_eq (a := o) (b := 3) (by omega) (by omega)).mp w
        subst this
        rw [if_pos w]
        exact ⟨fun _ => ⟨fun y => absurd y (by decide), fun y => absurd y (by decide), fun _ y => absurd n y, fun y => absurd y (by decide)⟩, fun _ y => absurd rfl y⟩
  unfold ew_p ey_p
  rw [Nat.mul_one, hl, he]
  constructor
  · intro h x hx
    refine (head x hx).mp (h (po_n inl y_length m x) ?_)
    have g1 : 1 ≤ gy_n inl y_length m x := by
      unfold gy_n; split <;> omega
    have := ps_mo (gr := gy_n inl y_length m) (x := x + 1) (y := hq_t (y_length m)) (by omega)
    have e := po_s inl y_length m x
    unfold po_n at *
    omega
  · intro h k hk
    obtain ⟨x, i, hx, hx2, rfl⟩ := ps_at hk
    rcases Nat.eq_zero_or_pos i with z | z
    · subst z
      exact (head x hx).mpr (h x hx)
    · by_cases n : inl (6 * m + x) < 0
      · rw [gy_1 n] at hx2; omega
      · rw [gy_t hx n] at hx2
        obtain ⟨_, c2, _⟩ := hc x hx
        obtain ⟨_, _, _, q4⟩ := c2 n
        obtain ⟨j, rfl⟩ : ∃ j, i = 1 + j := ⟨i - 1, by omega⟩
        have := (q4 j (by omega)).2.1
        have e : 24 * (30 + m) + (ps_n (gy_n inl y_length m) x + (1 + j)) = 24 * (30 + m) + po_n inl y_length m x + 1 + j := by unfold po_n; omega
        rw [e, this]
        exact fun y => absurd rfl y
end
end
section
/-! ===== X: dropping, numbering ===== -/
section
variable {x_classCount x_methodCount x_ruleCount x_isBuilt x_faultPlace x_namedClasses x_madeClasses x_namedMethods x_liveMethods x_depth x_stepCount x_outCount x_traceCount : Int32} {x_isInterfaceClass x_chainOf x_interfacesOf x_ancestorsOf x_homeOf x_formOf x_nameOf x_lengthOf x_opOf x_classOf x_numberOf x_sourceMethod x_sourceLine x_callLine x_ruleKind x_ruleClasses x_ruleNames x_newNumber x_familyOf x_sightOf x_frameRow x_frameLine x_frameHeld x_outInts x_traceMethod x_traceLine : Nat → Int32} {C M R : Nat}
theorem xD_v (h30 : M ≤ 30) (hM : x_methodCount = nI M) {post : SX → Prop}
    (K : ∀ F L, (∀ j, j < 30 → F j = x_formOf j) → (∀ j, j < 30 → L j = x_lengthOf j) → (∀ m, m < M → F (30 + m) = if bt x_liveMethods m = true then 2 else if bt x_namedMethods m = true then 1 else 0) →
      (∀ m, m < M → L (30 + m) = if bt x_liveMethods m = true then x_lengthOf (30 + m) else 0) → post (x_classCount, x_methodCount, x_ruleCount, x_isBuilt, x_faultPlace, x_namedClasses, x_madeClasses, x_namedMethods, x_liveMethods, x_depth, x_stepCount, x_outCount, x_traceCount, x_isInterfaceClass, x_chainOf, x_interfacesOf, x_ancestorsOf, x_homeOf, F, x_nameOf, L, x_opOf, x_classOf, x_numberOf, x_sourceMethod, x_sourceLine, x_callLine, x_ruleKind, x_ruleClasses, x_ruleNames, x_newNumber, x_familyOf, x_sightOf, x_frameRow, x_frameLine, x_frameHeld, x_outInts, x_traceMethod, x_traceLine)) : wpX_dropUnmarkedMethods post (x_classCount, x_methodCount, x_ruleCount, x_isBuilt, x_faultPlace, x_namedClasses, x_madeClasses, x_namedMethods, x_liveMethods, x_depth, x_stepCount, x_outCount, x_traceCount, x_isInterfaceClass, x_chainOf, x_interfacesOf, x_ancestorsOf, x_homeOf, x_formOf, x_nameOf, x_lengthOf, x_opOf, x_classOf, x_numberOf, x_sourceMethod, x_sourceLine, x_callLine, x_ruleKind, x_ruleClasses, x_ruleNames, x_newNumber, x_familyOf, x_sightOf, x_frameRow, x_frameLine, x_frameHeld, x_outInts, x_traceMethod, x_traceLine) := by
  have lo : ∀ q i f F L, i + q = M → q < f → (∀ j, j < 30 → F j = x_formOf j) → (∀ j, j < 30 → L j = x_lengthOf j) →
      (∀ m, m < i → F (30 + m) = if bt x_liveMethods m = true then 2 else if bt x_namedMethods m = true then 1 else 0) →
      (∀ m, m < i → L (30 + m) = if bt x_liveMethods m = true then x_lengthOf (30 + m) else 0) → (∀ m, i ≤ m → m < M → L (30 + m) = x_lengthOf (30 + m)) →
      wX_dropUnmarkedMethods_2 post x_classCount x_methodCount x_ruleCount x_isBuilt x_faultPlace x_namedClasses x_madeClasses x_namedMethods x_liveMethods x_depth x_stepCount x_outCount x_traceCount f (nI i) x_isInterfaceClass x_chainOf x_interfacesOf x_ancestorsOf x_homeOf F x_nameOf L x_opOf x_classOf x_numberOf x_sourceMethod x_sourceLine x_callLine x_ruleKind x_ruleClasses x_ruleNames x_newNumber x_familyOf x_sightOf x_frameRow x_frameLine x_frameHeld x_outInts x_traceMethod x_traceLine := by
    intro q
    induction q with
    | zero =>
      intro i f F L e hf a1 a2 a3 a4 a5
      obtain ⟨f, rfl⟩ : ∃ q, f = q + 1 := ⟨f - 1, by omega⟩
      have e : i = M := by omega
      subst e
      rw [wX_dropUnmarkedMethods_2]
      exact br_t (by rw [hM]; exact nI_le (by omega) (by omega)) (K F L a1 a2 a3 a4)
    | succ q ih =>
      intro i f F L e hf a1 a2 a3 a4 a5
      obtain ⟨f, rfl⟩ : ∃ q, f = q + 1 := ⟨f - 1, by omega⟩
      have i60 : vp_in (nI (30 + i)) 60 := vp_in_nI (by omega) (by decide)
      have dr : ∀ v : Int32, ¬ bt x_liveMethods i = true → v = (if bt x_namedMethods i = true then 1 else 0) →
          wX_dropUnmarkedMethods_57 post (wX_dropUnmarkedMethods_2 post x_classCount x_methodCount x_ruleCount x_isBuilt x_faultPlace x_namedClasses x_madeClasses x_namedMethods x_liveMethods x_depth x_stepCount x_outCount x_traceCount f) (nI i) (nI (30 + i)) v (nI (30 + i)) x_classCount x_methodCount x_ruleCount x_isBuilt x_faultPlace x_namedClasses x_madeClasses x_namedMethods x_liveMethods x_depth x_stepCount x_outCount x_traceCount x_isInterfaceClass x_chainOf x_interfacesOf x_ancestorsOf x_homeOf F x_nameOf L x_opOf x_classOf x_numberOf x_sourceMethod x_sourceLine x_callLine x_ruleKind x_ruleClasses x_ruleNames x_newNumber x_familyOf x_sightOf x_frameRow x_frameLine x_frameHeld x_outInts x_traceMethod x_traceLine := fun v nl ev => by
        unfold wX_dropUnmarkedMethods_57
        rw [nI_c (show 30 + i < 10000 by omega)]
        refine ⟨i60, nm_e ⟨i60, nm_e (nm_r (nI_1 i) (ih (i + 1) f _ _ (by omega) (by omega) (fun j hj => ?_) (fun j hj => ?_) (fun m hm => ?_) (fun m hm => ?_) (fun m h1 h2 => ?_)))⟩⟩
        · rw [pk_un (by omega)]; exact a1 j hj
        · rw [pk_un (by omega)]; exact a2 j hj
        · rcases Nat.lt_or_ge m i with w | w
          · rw [pk_un (by omega)]; exact a3 m w
          · have : m = i := by omega
            subst this; rw [pk_us, if_neg nl]; exact ev
        · rcases Nat.lt_or_ge m i with w | w
          · rw [pk_un (by omega)]; exact a4 m w
          · have : m = i := by omega
            subst this; rw [pk_us, if_neg nl]
        · rw [pk_un (by omega)]; exact a5 m (by omega) h2
      rw [wX_dropUnmarkedMethods_2]
      refine br_f (by rw [hM]; exact nI_ge (by omega) (by omega)) (nm_r (nI_b30 i) (xh_b (by omega) (fun y => ⟨i60, ?_⟩) (fun y => xh_b (by omega) (fun x => dr 1 y (if_pos x).symm) (fun x => dr 0 y (if_neg x).symm))))
      rw [nI_c (show 30 + i < 10000 by omega)]
      refine nm_e (nm_r (nI_1 i) (ih (i + 1) f _ L (by omega) (by omega) (fun j hj => ?_) a2 (fun m hm => ?_) (fun m hm => ?_) (fun m h1 h2 => a5 m (by omega) h2)))
      · rw [pk_un (by omega)]; exact a1 j hj
      · rcases Nat.lt_or_ge m i with w | w
        · rw [pk_un (by omega)]; exact a3 m w
        · have : m = i := by omega
          subst this; rw [pk_us, if_pos y]
      · rcases Nat.lt_or_ge m i with w | w
        · exact a4 m w
        · have : m = i := by omega
          subst this; rw [if_pos y]; exact a5 m (by omega) (by omega)
  unfold wpX_dropUnmarkedMethods
  exact ⟨M + 1, lo M 0 (M + 1) _ _ (by omega) (by omega) (fun _ _ => rfl) (fun _ _ => rfl) (fun m hm => by omega) (fun m hm => by omega) (fun _ _ _ => rfl)⟩
theorem xL_v {post : Int32 → Prop} {s : Int32} {n : Nat} (hn : n < 10) (h1 : ¬ bt s n = true) (h2 : ∀ j, j < n → bt s j = true) (hp : post (nI n)) : wpX_leastOutside post s := by
  have lo : ∀ q i f, i + q = n → q < f → wX_leastOutside_4 post s f (nI i) (nI i) := by
    intro q
    induction q with
    | zero =>
      intro i f e hf
      obtain ⟨f, rfl⟩ : ∃ q, f = q + 1 := ⟨f - 1, by omega⟩
      have e : i = n := by omega
      subst e
      rw [wX_leastOutside_4]
      exact br_f (nI_ge (b := 10) (by omega) (by decide)) (xh_b (by omega) (fun y => absurd y h1) (fun _ => hp))
    | succ q ih =>
      intro i f e hf
      obtain ⟨f, rfl⟩ : ∃ q, f = q + 1 := ⟨f - 1, by omega⟩
      rw [wX_leastOutside_4]
      exact br_f (nI_ge (b := 10) (by omega) (by decide)) (xh_b (by omega) (fun _ => nm_r (nI_1 i) (nm_r (nI_1 i) (ih (i + 1) f (by omega) (by omega)))) (fun y => absurd (h2 i (by omega)) y))
  unfold wpX_leastOutside
  exact ⟨n + 1, lo n 0 (n + 1) (by omega) (by omega)⟩
def ke_p (R : Nat) (rc : Nat → Int32) (N kept : Int32) : Prop := ∀ i, bt kept i = true ↔ bt N i = true ∧ ∃ r, r < R ∧ bt (rc r) i = true
theorem ke_u {rc : Nat → Int32} {N k k' : Int32} (h : ke_p R rc N k) (g : ke_p R rc N k') : k = k' := b_ext (fun i _ => Bool.eq_iff_iff.mpr ((h i).trans (g i).symm))
theorem xN_l (h10 : C ≤ 10) (hC : x_classCount = nI C) {kept : Int32} (hk : ∀ i, bt kept i = true → i < 10) (kn : ∀ i, bt kept i = true → bt x_namedClasses i = true) {post : SX → Prop}
    (K : ∀ nu, (∀ c, c < C → nu c = nu_v kept x_namedClasses c) → post (x_classCount, x_methodCount, x_ruleCount, x_isBuilt, x_faultPlace, x_namedClasses, x_madeClasses, x_namedMethods, x_liveMethods, x_depth, x_stepCount, x_outCount, x_traceCount, x_isInterfaceClass, x_chainOf, x_interfacesOf, x_ancestorsOf, x_homeOf, x_formOf, x_nameOf, x_lengthOf, x_opOf, x_classOf, x_numberOf, x_sourceMethod, x_sourceLine, x_callLine, x_ruleKind, x_ruleClasses, x_ruleNames, nu, x_familyOf, x_sightOf, x_frameRow, x_frameLine, x_frameHeld, x_outInts, x_traceMethod, x_traceLine)) :
    ∀ q i f nu, i + q = C → q < f → (∀ c, c < i → nu c = nu_v kept x_namedClasses c) → wX_numberClasses_36 post kept x_classCount x_methodCount x_ruleCount x_isBuilt x_faultPlace x_namedClasses x_madeClasses x_namedMethods x_liveMethods x_depth x_stepCount x_outCount x_traceCount f (nu_u kept x_namedClasses i) (nI i) x_isInterfaceClass x_chainOf x_interfacesOf x_ancestorsOf x_homeOf x_formOf x_nameOf x_lengthOf x_opOf x_classOf x_numberOf x_sourceMethod x_sourceLine x_callLine x_ruleKind x_ruleClasses x_ruleNames nu x_familyOf x_sightOf x_frameRow x_frameLine x_frameHeld x_outInts x_traceMethod x_traceLine := by
  intro q
  induction q with
  | zero =>
    intro i f nu e hf z
    obtain ⟨f, rfl⟩ : ∃ q, f = q + 1 := ⟨f - 1, by omega⟩
    have e : i = C := by omega
    subst e
    rw [wX_numberClasses_36]
    exact br_t (by rw [hC]; exact nI_le (by omega) (by omega)) (K nu z)
  | succ q ih =>
    intro i f nu e hf z
    obtain ⟨f, rfl⟩ : ∃ q, f = q + 1 := ⟨f - 1, by omega⟩
    have i10 : vp_in (nI i) 10 := vp_in_nI (by omega) (by decide)
    have nx : ∀ nu', (∀ c, c < i → nu' c = nu c) → nu' i = nu_v kept x_namedClasses i → wX_numberClasses_36 post kept x_classCount x_methodCount x_ruleCount x_isBuilt x_faultPlace x_namedClasses x_madeClasses x_namedMethods x_liveMethods x_depth x_stepCount x_outCount x_traceCount f (nu_u kept x_namedClasses (i + 1)) (nI (i + 1)) x_isInterfaceClass x_chainOf x_interfacesOf x_ancestorsOf x_homeOf x_formOf x_nameOf x_lengthOf x_opOf x_classOf x_numberOf x_sourceMethod x_sourceLine x_callLine x_ruleKind x_ruleClasses x_ruleNames nu' x_familyOf x_sightOf x_frameRow x_frameLine x_frameHeld x_outInts x_traceMethod x_traceLine := fun nu' h1 h2 =>
      ih (i + 1) f nu' (by omega) (by omega) (fun c hc => by
        rcases Nat.lt_or_ge c i with v | v
        · rw [h1 c v]; exact z c v
        · have : c = i := by omega
          subst this; exact h2)
    have uk : ¬ (bt x_namedClasses i = true ∧ ¬ bt kept i = true) → nu_u kept x_namedClasses (i + 1) = nu_u kept x_namedClasses i := fun h => if_neg h
    rw [wX_numberClasses_36]
    refine br_f (by rw [hC]; exact nI_ge (by omega) (by omega)) ⟨i10, nm_e ?_⟩
    rw [nI_c (show i < 10000 by omega)]
    refine xh_b (by omega) (fun y => ⟨i10, nm_e (nm_r (nI_1 i) ?_)⟩) (fun y => xh_b (by omega) (fun x => ?_) (fun x => nm_r (nI_1 i) ?_))
    · have := nx (upd (upd nu i (-1)) i (nI i)) (fun c hc => by rw [pk_un (by omega), pk_un (by omega)]) (by rw [pk_us]; exact (if_pos y).symm)
      rw [uk (fun q => q.2 y)] at this
      exact this
    · obtain ⟨l1, l2, l3⟩ := nu_10 (c := i) (by omega) y (nu_all hk i (by omega))
      refine xL_v l1 l2 l3 ⟨i10, nm_e ⟨i10, nm_e (nm_r (nI_1 i) ?_)⟩⟩
      rw [pk_us]
      have := nx (upd (upd nu i (-1)) i (nI (lo_n (nu_u kept x_namedClasses i)))) (fun c hc => by rw [pk_un (by omega), pk_un (by omega)]) (by
        rw [pk_us]; unfold nu_v; rw [if_neg y, if_pos x])
      rw [show nu_u kept x_namedClasses (i + 1) = nu_u kept x_namedClasses i ||| ((1 : Int32) <<< (nI (lo_n (nu_u kept x_namedClasses i)) &&& 31)) from if_pos ⟨x, y⟩] at this
      exact this
    · have := nx (upd nu i (-1)) (fun c hc => pk_un (by omega)) (by
        rw [pk_us]; unfold nu_v; rw [if_neg y, if_neg x])
      rw [uk (fun q => x q.1)] at this
      exact this
theorem xN_v (h10 : C ≤ 10) (h4 : R ≤ 4) (hC : x_classCount = nI C) (hR : x_ruleCount = nI R) (hn : ∀ i, bt x_namedClasses i = true → i < C) {post : SX → Prop}
    (K : ∀ kept nu, ke_p R x_ruleClasses x_namedClasses kept → (∀ c, c < C → nu c = nu_v kept x_namedClasses c) → post (x_classCount, x_methodCount, x_ruleCount, x_isBuilt, x_faultPlace, x_namedClasses, x_madeClasses, x_namedMethods, x_liveMethods, x_depth, x_stepCount, x_outCount, x_traceCount, x_isInterfaceClass, x_chainOf, x_interfacesOf, x_ancestorsOf, x_homeOf, x_formOf, x_nameOf, x_lengthOf, x_opOf, x_classOf, x_numberOf, x_sourceMethod, x_sourceLine, x_callLine, x_ruleKind, x_ruleClasses, x_ruleNames, nu, x_familyOf, x_sightOf, x_frameRow, x_frameLine, x_frameHeld, x_outInts, x_traceMethod, x_traceLine)) : wpX_numberClasses post (x_classCount, x_methodCount, x_ruleCount, x_isBuilt, x_faultPlace, x_namedClasses, x_madeClasses, x_namedMethods, x_liveMethods, x_depth, x_stepCount, x_outCount, x_traceCount, x_isInterfaceClass, x_chainOf, x_interfacesOf, x_ancestorsOf, x_homeOf, x_formOf, x_nameOf, x_lengthOf, x_opOf, x_classOf, x_numberOf, x_sourceMethod, x_sourceLine, x_callLine, x_ruleKind, x_ruleClasses, x_ruleNames, x_newNumber, x_familyOf, x_sightOf, x_frameRow, x_frameLine, x_frameHeld, x_outInts, x_traceMethod, x_traceLine) := by
  have lo : ∀ q i f v, i + q = R → q < f → ke_p i x_ruleClasses x_namedClasses v → wX_numberClasses_4 post x_classCount x_methodCount x_ruleCount x_isBuilt x_faultPlace x_namedClasses x_madeClasses x_namedMethods x_liveMethods x_depth x_stepCount x_outCount x_traceCount x_isInterfaceClass x_chainOf x_interfacesOf x_ancestorsOf x_homeOf x_formOf x_nameOf x_lengthOf x_opOf x_classOf x_numberOf x_sourceMethod x_sourceLine x_callLine x_ruleKind x_ruleClasses x_ruleNames x_newNumber x_familyOf x_sightOf x_frameRow x_frameLine x_frameHeld x_outInts x_traceMethod x_traceLine f v (nI i) := by
    intro q
    induction q with
    | zero =>
      intro i f v e hf z
      obtain ⟨f, rfl⟩ : ∃ q, f = q + 1 := ⟨f - 1, by omega⟩
      have e : i = R := by omega
      subst e
      rw [wX_numberClasses_4]
      refine br_t (by rw [hR]; exact nI_le (by omega) (by omega)) ⟨C + 1, ?_⟩
      exact xN_l h10 hC (fun j y => by have := hn j ((z j).mp y).1; omega) (fun j y => ((z j).mp y).1) (fun nu h => K v nu z h) C 0 (C + 1) _ (by omega) (by omega) (fun c hc => by omega)
    | succ q ih =>
      intro i f v e hf z
      obtain ⟨f, rfl⟩ : ∃ q, f = q + 1 := ⟨f - 1, by omega⟩
      rw [wX_numberClasses_4]
      refine br_f (by rw [hR]; exact nI_ge (by omega) (by omega)) ⟨vp_in_nI (by omega) (by decide), ?_⟩
      rw [nI_c (by omega)]
      refine nm_e (nm_r (nI_1 i) (ih (i + 1) f _ (by omega) (by omega) (fun j => ?_)))
      rw [b_or, b_and, Bool.or_eq_true, Bool.and_eq_true, z j]
      constructor
      · rintro (⟨a, r, hr, b⟩ | ⟨a, b⟩)
        · exact ⟨a, r, by omega, b⟩
        · exact ⟨b, i, by omega, a⟩
      · rintro ⟨a, r, hr, b⟩
        rcases Nat.lt_or_ge r i with w | w
        · exact Or.inl ⟨a, r, w, b⟩
        · have : r = i := by omega
          subst this; exact Or.inr ⟨b, a⟩
  unfold wpX_numberClasses
  exact ⟨R + 1, lo R 0 (R + 1) 0 (by omega) (by omega) (fun j => by
    rw [b_0]
    exact ⟨fun z => absurd z (by decide), fun ⟨_, r, hr, _⟩ => by omega⟩)⟩
end
end
section
/-! ===== Y: numbering ===== -/
section
variable {y_classes y_methods y_rules y_place y_named y_made y_namedMethods y_live y_built y_depth y_steps y_outs y_ending : Int32} {y_isInterface y_isAbstract y_parent y_ancestors y_own y_many y_home y_name y_length y_op y_first y_second y_ruleKind y_ruleClasses y_ruleNames y_inlined y_number y_newName y_family y_vMethod y_vLine y_vHeld y_put : Nat → Int32} {C M R : Nat}
theorem yN_l (h10 : C ≤ 10) (hC : y_classes = nI C) {kept : Int32} (hk : ∀ i, bt kept i = true → i < 10) (kn : ∀ i, bt kept i = true → bt y_named i = true) {post : SY → Prop}
    (K : ∀ nu, (∀ c, c < C → nu c = nu_v kept y_named c) → post (y_classes, y_methods, y_rules, y_place, y_named, y_made, y_namedMethods, y_live, y_built, y_depth, y_steps, y_outs, y_ending, y_isInterface, y_isAbstract, y_parent, y_ancestors, y_own, y_many, y_home, y_name, y_length, y_op, y_first, y_second, y_ruleKind, y_ruleClasses, y_ruleNames, y_inlined, nu, y_newName, y_family, y_vMethod, y_vLine, y_vHeld, y_put)) :
    ∀ q i f nu, i + q = C → q < f → (∀ c, c < i → nu c = nu_v kept y_named c) → wY_renumber_15 post kept y_classes y_methods y_rules y_place y_named y_made y_namedMethods y_live y_built y_depth y_steps y_outs y_ending f (nu_u kept y_named i) (nI i) y_isInterface y_isAbstract y_parent y_ancestors y_own y_many y_home y_name y_length y_op y_first y_second y_ruleKind y_ruleClasses y_ruleNames y_inlined nu y_newName y_family y_vMethod y_vLine y_vHeld y_put := by
  intro q
  induction q with
  | zero =>
    intro i f nu e hf z
    obtain ⟨f, rfl⟩ : ∃ q, f = q + 1 := ⟨f - 1, by omega⟩
    have e : i = C := by omega
    subst e
    rw [wY_renumber_15]
    exact br_t (by rw [hC]; exact nI_le (by omega) (by omega)) (K nu z)
  | succ q ih =>
    intro i f nu e hf z
    obtain ⟨f, rfl⟩ : ∃ q, f = q + 1 := ⟨f - 1, by omega⟩
    have i10 : vp_in (nI i) 10 := vp_in_nI (by omega) (by decide)
    have nx : ∀ nu', (∀ c, c < i → nu' c = nu c) → nu' i = nu_v kept y_named i → wY_renumber_15 post kept y_classes y_methods y_rules y_place y_named y_made y_namedMethods y_live y_built y_depth y_steps y_outs y_ending f (nu_u kept y_named (i + 1)) (nI (i + 1)) y_isInterface y_isAbstract y_parent y_ancestors y_own y_many y_home y_name y_length y_op y_first y_second y_ruleKind y_ruleClasses y_ruleNames y_inlined nu' y_newName y_family y_vMethod y_vLine y_vHeld y_put := fun nu' h1 h2 =>
      ih (i + 1) f nu' (by omega) (by omega) (fun c hc => by
        rcases Nat.lt_or_ge c i with v | v
        · rw [h1 c v]; exact z c v
        · have : c = i := by omega
          subst this; exact h2)
    have uk : ¬ (bt y_named i = true ∧ ¬ bt kept i = true) → nu_u kept y_named (i + 1) = nu_u kept y_named i := fun h => if_neg h
    rw [wY_renumber_15]
    refine br_f (by rw [hC]; exact nI_ge (by omega) (by omega)) (yb_b (by omega) (fun y => ?_) (fun y => ?_))
    · unfold wY_renumber_44
      rw [nI_c (show i < 10000 by omega)]
      refine ⟨i10, nm_e (yb_b (by omega) (fun _ => yb_b (by omega) (fun x => nm_r (nI_1 i) ?_) (fun x => ?_)) (fun w => absurd y w))⟩
      · have := nx (upd nu i (nI i)) (fun c hc => pk_un (by omega)) (by rw [pk_us]; exact (if_pos x).symm)
        rw [uk (fun q => q.2 x)] at this
        exact this
      · obtain ⟨l1, l2, l3⟩ := nu_10 (named := y_named) (c := i) (by omega) x (nu_all hk i (by omega))
        have lo : ∀ q k g, k + q = lo_n (nu_u kept y_named i) → q < g → wY_renumber_70 post (wY_renumber_15 post kept y_classes y_methods y_rules y_place y_named y_made y_namedMethods y_live y_built y_depth y_steps y_outs y_ending f) kept (nu_u kept y_named i) (nI i) y_classes y_methods y_rules y_place y_named y_made y_namedMethods y_live y_built y_depth y_steps y_outs y_ending y_isInterface y_isAbstract y_parent y_ancestors y_own y_many y_home y_name y_length y_op y_first y_second y_ruleKind y_ruleClasses y_ruleNames y_inlined (upd nu i (nI i)) y_newName y_family y_vMethod y_vLine y_vHeld y_put g (nI k) := by
          intro q
          induction q with
          | zero =>
            intro k g e hg
            obtain ⟨g, rfl⟩ : ∃ q, g = q + 1 := ⟨g - 1, by omega⟩
            have e : k = lo_n (nu_u kept y_named i) := by omega
            rw [wY_renumber_70]
            refine yb_b (by omega) (fun w => absurd (by rw [← e]; exact w) l2) (fun _ => ⟨i10, nm_e (nm_e (nm_r (nI_1 i) ?_))⟩)
            rw [nI_c (show i < 10000 by omega), e]
            have := nx (upd (upd nu i (nI i)) i (nI (lo_n (nu_u kept y_named i)))) (fun c hc => by rw [pk_un (by omega), pk_un (by omega)]) (by
              rw [pk_us]; unfold nu_v; rw [if_neg x, if_pos y])
            rw [show nu_u kept y_named (i + 1) = nu_u kept y_named i ||| ((1 : Int32) <<< (nI (lo_n (nu_u kept y_named i)) &&& 31)) from if_pos ⟨y, x⟩] at this
            exact this
          | succ q ih2 =>
            intro k g e hg
            obtain ⟨g, rfl⟩ : ∃ q, g = q + 1 := ⟨g - 1, by omega⟩
            rw [wY_renumber_70]
            exact yb_b (by omega) (fun _ => nm_r (nI_1 k) (ih2 (k + 1) g (by omega) (by omega))) (fun w => absurd (l3 k (by omega)) w)
        exact ⟨_, lo (lo_n (nu_u kept y_named i)) 0 (lo_n (nu_u kept y_named i) + 1) (by omega) (by omega)⟩
    · unfold wY_renumber_44
      rw [nI_c (show i < 10000 by omega)]
      refine ⟨i10, nm_e (yb_b (by omega) (fun w => absurd w y) (fun _ => nm_r (nI_1 i) ?_))⟩
      have := nx (upd nu i (-1)) (fun c hc => pk_un (by omega)) (by
        rw [pk_us]; unfold nu_v; rw [if_neg (fun q => y (kn i q)), if_neg y])
      rw [uk (fun q => y q.1)] at this
      exact this
theorem yN_v (h10 : C ≤ 10) (h4 : R ≤ 4) (hC : y_classes = nI C) (hR : y_rules = nI R) (hkd : ∀ r, r < R → y_ruleKind r = 0 ∨ y_ruleKind r = 1) (hn : ∀ i, bt y_named i = true → i < C) {post : SY → Prop}
    (K : ∀ kept nu, ke_p R y_ruleClasses y_named kept → (∀ c, c < C → nu c = nu_v kept y_named c) → post (y_classes, y_methods, y_rules, y_place, y_named, y_made, y_namedMethods, y_live, y_built, y_depth, y_steps, y_outs, y_ending, y_isInterface, y_isAbstract, y_parent, y_ancestors, y_own, y_many, y_home, y_name, y_length, y_op, y_first, y_second, y_ruleKind, y_ruleClasses, y_ruleNames, y_inlined, nu, y_newName, y_family, y_vMethod, y_vLine, y_vHeld, y_put)) : wpY_renumber post (y_classes, y_methods, y_rules, y_place, y_named, y_made, y_namedMethods, y_live, y_built, y_depth, y_steps, y_outs, y_ending, y_isInterface, y_isAbstract, y_parent, y_ancestors, y_own, y_many, y_home, y_name, y_length, y_op, y_first, y_second, y_ruleKind, y_ruleClasses, y_ruleNames, y_inlined, y_number, y_newName, y_family, y_vMethod, y_vLine, y_vHeld, y_put) := by
  unfold wpY_renumber
  dsimp only
  refine yU_v hC hR h10 h4 (fun v hv => nm_e ⟨C + 1, ?_⟩)
  have ke : ke_p R y_ruleClasses y_named (v &&& y_named) := fun i => by
    rw [b_and, Bool.and_eq_true, hv i]
    constructor
    · rintro ⟨⟨_, r, hr, _, b⟩, a⟩; exact ⟨a, r, hr, b⟩
    · rintro ⟨a, r, hr, b⟩
      refine ⟨⟨hn i a, r, hr, ?_, b⟩, a⟩
      rcases hkd r hr with e | e <;> rw [e] <;> decide
  exact yN_l h10 hC (fun j y => by have := hn j ((ke j).mp y).1; omega) (fun j y => ((ke j).mp y).1) (fun nu h => K _ nu ke h) C 0 (C + 1) _ (by omega) (by omega) (fun c hc => by omega)
end
end
section
/-! ===== families: X ===== -/
section
variable {x_classCount x_methodCount x_ruleCount x_isBuilt x_faultPlace x_namedClasses x_madeClasses x_namedMethods x_liveMethods x_depth x_stepCount x_outCount x_traceCount : Int32} {x_isInterfaceClass x_chainOf x_interfacesOf x_ancestorsOf x_homeOf x_formOf x_nameOf x_lengthOf x_opOf x_classOf x_numberOf x_sourceMethod x_sourceLine x_callLine x_ruleKind x_ruleClasses x_ruleNames x_newNumber x_familyOf x_sightOf x_frameRow x_frameLine x_frameHeld x_outInts x_traceMethod x_traceLine : Nat → Int32} {C M R : Nat} {y_name : Nat → Int32}
theorem xK_b (h10 : C ≤ 10) (g : mh_ok C M x_homeOf) (hC : x_classCount = nI C) (hnm : ∀ m, m < M → x_nameOf m = y_name m) {A B : Prop} {p q : Nat} (hp : p < M) (hq : q < M) (t : kn_p C M x_ancestorsOf x_homeOf y_name x_namedClasses x_namedMethods p q → B) (f : ¬ kn_p C M x_ancestorsOf x_homeOf y_name x_namedClasses x_namedMethods p q → A) :
    wpX_areKin (fun z => (z = 0 → A) ∧ (¬ z = 0 → B)) (x_classCount, x_methodCount, x_ruleCount, x_isBuilt, x_faultPlace, x_namedClasses, x_madeClasses, x_namedMethods, x_liveMethods, x_depth, x_stepCount, x_outCount, x_traceCount, x_isInterfaceClass, x_chainOf, x_interfacesOf, x_ancestorsOf, x_homeOf, x_formOf, x_nameOf, x_lengthOf, x_opOf, x_classOf, x_numberOf, x_sourceMethod, x_sourceLine, x_callLine, x_ruleKind, x_ruleClasses, x_ruleNames, x_newNumber, x_familyOf, x_sightOf, x_frameRow, x_frameLine, x_frameHeld, x_outInts, x_traceMethod, x_traceLine) (nI p) (nI q) := by
  have h30 := g.1
  obtain ⟨op, lp⟩ := mh_h g h10 hp
  obtain ⟨oq, lq⟩ := mh_h g h10 hq
  unfold wpX_areKin
  dsimp only
  rw [nI_c (show p < 10000 by omega), nI_c (show q < 10000 by omega), hnm p hp, hnm q hq]
  refine ⟨vp_in_nI (by omega) (by decide), vp_in_nI (by omega) (by decide), br_c (fun en => xh_b (by omega) (fun bp => xh_b (by omega) (fun bq => ⟨C + 1, ?_⟩) (fun z => br_0 (f (fun k => z k.2.2.2.1)))) (fun z => br_0 (f (fun k => z k.2.2.1)))) (fun z => br_0 (f (fun k => z k.2.2.2.2.1)))⟩
  have lo : ∀ k i g v, i + k = C → k < g → (v = 0 ↔ ¬ ∃ d, d < i ∧ bt x_namedClasses d = true ∧ bt (x_ancestorsOf d) (hq_t (x_homeOf p)) = true ∧ bt (x_ancestorsOf d) (hq_t (x_homeOf q)) = true) →
      wX_areKin_44 (fun z => (z = 0 → A) ∧ (¬ z = 0 → B)) (nI p) (nI q) x_classCount x_methodCount x_ruleCount x_isBuilt x_faultPlace x_namedClasses x_madeClasses x_namedMethods x_liveMethods x_depth x_stepCount x_outCount x_traceCount x_isInterfaceClass x_chainOf x_interfacesOf x_ancestorsOf x_homeOf x_formOf x_nameOf x_lengthOf x_opOf x_classOf x_numberOf x_sourceMethod x_sourceLine x_callLine x_ruleKind x_ruleClasses x_ruleNames x_newNumber x_familyOf x_sightOf x_frameRow x_frameLine x_frameHeld x_outInts x_traceMethod x_traceLine g v (nI i) := by
    intro k
    induction k with
    | zero =>
      intro i g v e hg z
      obtain ⟨g, rfl⟩ : ∃ q, g = q + 1 := ⟨g - 1, by omega⟩
      have e : i = C := by omega
      subst e
      rw [wX_areKin_44]
      refine br_t (by rw [hC]; exact nI_le (by omega) (by omega)) (br_c (fun y => br_0 (f (fun k => z.mp y k.2.2.2.2.2))) (fun y => br_1 (t ?_)))
      exact ⟨hp, hq, bp, bq, en, Classical.byContradiction (fun w => y (z.mpr w))⟩
    | succ k ih =>
      intro i g v e hg z
      obtain ⟨g, rfl⟩ : ∃ q, g = q + 1 := ⟨g - 1, by omega⟩
      have nx : ¬ (bt x_namedClasses i = true ∧ bt (x_ancestorsOf i) (hq_t (x_homeOf p)) = true ∧ bt (x_ancestorsOf i) (hq_t (x_homeOf q)) = true) → wX_areKin_44 (fun z => (z = 0 → A) ∧ (¬ z = 0 → B)) (nI p) (nI q) x_classCount x_methodCount x_ruleCount x_isBuilt x_faultPlace x_namedClasses x_madeClasses x_namedMethods x_liveMethods x_depth x_stepCount x_outCount x_traceCount x_isInterfaceClass x_chainOf x_interfacesOf x_ancestorsOf x_homeOf x_formOf x_nameOf x_lengthOf x_opOf x_classOf x_numberOf x_sourceMethod x_sourceLine x_callLine x_ruleKind x_ruleClasses x_ruleNames x_newNumber x_familyOf x_sightOf x_frameRow x_frameLine x_frameHeld x_outInts x_traceMethod x_traceLine g v (nI (i + 1)) := fun y =>
        ih (i + 1) g v (by omega) (by omega) (z.trans ⟨fun n ⟨d, hd, w⟩ => by
          rcases Nat.lt_or_ge d i with u | u
          · exact n ⟨d, u, w⟩
          · have : d = i := by omega
            subst this; exact y w, fun n ⟨d, hd, w⟩ => n ⟨d, by omega, w⟩⟩)
      rw [wX_areKin_44]
      refine br_f (by rw [hC]; exact nI_ge (by omega) (by omega)) (xh_b (by omega) (fun y => ⟨vp_in_nI (by omega) (by decide), ?_⟩) (fun y => nm_r (nI_1 i) (nx (fun k => y k.1))))
      rw [nI_c (show p < 10000 by omega), op]
      refine xd_b (by omega) (by omega) (fun x => ⟨vp_in_nI (by omega) (by decide), ?_⟩) (fun x => nm_r (nI_1 i) (nx (fun k => x k.2.1)))
      rw [nI_c (show q < 10000 by omega), oq]
      refine xd_b (by omega) (by omega) (fun w => nm_e (nm_r (nI_1 i) (ih (i + 1) g _ (by omega) (by omega) ⟨fun z0 => ?_, fun n => absurd ⟨i, by omega, y, x, w⟩ n⟩))) (fun w => nm_r (nI_1 i) (nx (fun k => w k.2.2)))
      have := (bq_ze.mp z0) i
      exact absurd ((bq_o1 v (by omega) i).mpr (Or.inr rfl)) this
  exact lo C 0 (C + 1) 0 (by omega) (by omega) ⟨fun _ ⟨d, hd, _⟩ => by omega, fun _ => rfl⟩
/-- what a family array holds all along -/
def fy_p (kin : Nat → Nat → Prop) (M : Nat) (fa : Nat → Int32) : Prop := ∀ m, m < M → ∃ k, fa m = nI k ∧ k ≤ m ∧ fa_cp kin m k
theorem fy_v {kin : Nat → Nat → Prop} {fa : Nat → Int32} (h30 : M ≤ 30) (h : fy_p kin M fa) {m : Nat} (hm : m < M) : fa m = nI (hq_t (fa m)) ∧ hq_t (fa m) ≤ m ∧ fa_cp kin m (hq_t (fa m)) := by
  obtain ⟨k, e, l, c⟩ := h m hm
  rw [e, hq_e (by omega)]
  exact ⟨rfl, l, c⟩
theorem xK_m (h10 : C ≤ 10) (g : mh_ok C M x_homeOf) (hC : x_classCount = nI C) (hM : x_methodCount = nI M) (hnm : ∀ m, m < M → x_nameOf m = y_name m) (hfa : fy_p (kn_p C M x_ancestorsOf x_homeOf y_name x_namedClasses x_namedMethods) M x_familyOf) {post : Int32 → Prop} {p : Nat} (hp : p < M)
    (K : ∀ k, k ≤ hq_t (x_familyOf p) → fa_cp (kn_p C M x_ancestorsOf x_homeOf y_name x_namedClasses x_namedMethods) p k → (∀ q, kn_p C M x_ancestorsOf x_homeOf y_name x_namedClasses x_namedMethods p q → k ≤ hq_t (x_familyOf q)) → post (nI k)) : wpX_leastKinFamily post (x_classCount, x_methodCount, x_ruleCount, x_isBuilt, x_faultPlace, x_namedClasses, x_madeClasses, x_namedMethods, x_liveMethods, x_depth, x_stepCount, x_outCount, x_traceCount, x_isInterfaceClass, x_chainOf, x_interfacesOf, x_ancestorsOf, x_homeOf, x_formOf, x_nameOf, x_lengthOf, x_opOf, x_classOf, x_numberOf, x_sourceMethod, x_sourceLine, x_callLine, x_ruleKind, x_ruleClasses, x_ruleNames, x_newNumber, x_familyOf, x_sightOf, x_frameRow, x_frameLine, x_frameHeld, x_outInts, x_traceMethod, x_traceLine) (nI p) := by
  have h30 := g.1
  obtain ⟨f1, f2, f3⟩ := fy_v h30 hfa hp
  have lo : ∀ n i f k, i + n = M → n < f → k ≤ hq_t (x_familyOf p) → fa_cp (kn_p C M x_ancestorsOf x_homeOf y_name x_namedClasses x_namedMethods) p k → (∀ q, q < i → kn_p C M x_ancestorsOf x_homeOf y_name x_namedClasses x_namedMethods p q → k ≤ hq_t (x_familyOf q)) → wX_leastKinFamily_9 post (nI p) x_classCount x_methodCount x_ruleCount x_isBuilt x_faultPlace x_namedClasses x_madeClasses x_namedMethods x_liveMethods x_depth x_stepCount x_outCount x_traceCount x_isInterfaceClass x_chainOf x_interfacesOf x_ancestorsOf x_homeOf x_formOf x_nameOf x_lengthOf x_opOf x_classOf x_numberOf x_sourceMethod x_sourceLine x_callLine x_ruleKind x_ruleClasses x_ruleNames x_newNumber x_familyOf x_sightOf x_frameRow x_frameLine x_frameHeld x_outInts x_traceMethod x_traceLine f (nI k) (nI i) := by
    intro n
    induction n with
    | zero =>
      intro i f k e hf a1 a2 a3
      obtain ⟨f, rfl⟩ : ∃ q, f = q + 1 := ⟨f - 1, by omega⟩
      have e : i = M := by omega
      subst e
      rw [wX_leastKinFamily_9]
      exact br_t (by rw [hM]; exact nI_le (by omega) (by omega)) (K k a1 a2 (fun q kq => a3 q kq.2.1 kq))
    | succ n ih =>
      intro i f k e hf a1 a2 a3
      obtain ⟨f, rfl⟩ : ∃ q, f = q + 1 := ⟨f - 1, by omega⟩
      obtain ⟨i1, i2, i3⟩ := fy_v h30 hfa (m := i) (by omega)
      have nx : (kn_p C M x_ancestorsOf x_homeOf y_name x_namedClasses x_namedMethods p i → k ≤ hq_t (x_familyOf i)) → wX_leastKinFamily_9 post (nI p) x_classCount x_methodCount x_ruleCount x_isBuilt x_faultPlace x_namedClasses x_madeClasses x_namedMethods x_liveMethods x_depth x_stepCount x_outCount x_traceCount x_isInterfaceClass x_chainOf x_interfacesOf x_ancestorsOf x_homeOf x_formOf x_nameOf x_lengthOf x_opOf x_classOf x_numberOf x_sourceMethod x_sourceLine x_callLine x_ruleKind x_ruleClasses x_ruleNames x_newNumber x_familyOf x_sightOf x_frameRow x_frameLine x_frameHeld x_outInts x_traceMethod x_traceLine f (nI k) (nI (i + 1)) := fun y => ih (i + 1) f k (by omega) (by omega) a1 a2 (fun q hq kq => by
        rcases Nat.lt_or_ge q i with w | w
        · exact a3 q w kq
        · have : q = i := by omega
          subst this; exact y kq)
      rw [wX_leastKinFamily_9]
      refine br_f (by rw [hM]; exact nI_ge (by omega) (by omega)) ⟨vp_in_nI (by omega) (by decide), ?_⟩
      rw [nI_c (show i < 10000 by omega)]
      refine pk_le k (hq_t (x_familyOf i)) (fun y => nm_r (nI_1 i) (nx (fun _ => y))) (fun y => xK_b h10 g hC hnm hp (by omega) (fun kn => ⟨vp_in_nI (by omega) (by decide), nm_r i1 (nm_r (nI_1 i) ?_)⟩) (fun kn => nm_r (nI_1 i) (nx (fun q => absurd q kn)))) rfl i1
      refine ih (i + 1) f _ (by omega) (by omega) (by omega) (fa_ct (fa_ck kn) i3) (fun q hq kq => ?_)
      rcases Nat.lt_or_ge q i with w | w
      · have := a3 q w kq; omega
      · have : q = i := by omega
        subst this; exact Nat.le_refl _
  unfold wpX_leastKinFamily
  dsimp only
  rw [nI_c (by omega)]
  exact ⟨vp_in_nI (by omega) (by decide), nm_r f1 ⟨M + 1, lo M 0 (M + 1) _ (by omega) (by omega) (Nat.le_refl _) f3 (fun q hq => by omega)⟩⟩
end
end
section
/-! ===== families: X's rounds ===== -/
def fw_f (M : Nat) (fa : Nat → Int32) (m : Nat) : Nat := if m < M then hq_t (fa m) else m
theorem fw_i {M m : Nat} {fa : Nat → Int32} (h : m < M) : fw_f M fa m = hq_t (fa m) := if_pos h
theorem fw_o {M m : Nat} {fa : Nat → Int32} (h : ¬ m < M) : fw_f M fa m = m := if_neg h
theorem fw_c {kin : Nat → Nat → Prop} {M : Nat} {fa : Nat → Int32} (h30 : M ≤ 30) (h : fy_p kin M fa) (m : Nat) : fa_cp kin m (fw_f M fa m) := by
  by_cases c : m < M
  · rw [fw_i c]; exact (fy_v h30 h c).2.2
  · rw [fw_o c]; exact fa_cr kin m
theorem fw_l {kin : Nat → Nat → Prop} {M : Nat} {fa : Nat → Int32} (h30 : M ≤ 30) (h : fy_p kin M fa) (m : Nat) : fw_f M fa m ≤ m := by
  by_cases c : m < M
  · rw [fw_i c]; exact (fy_v h30 h c).2.1
  · rw [fw_o c]; exact Nat.le_refl m
section
variable {x_classCount x_methodCount x_ruleCount x_isBuilt x_faultPlace x_namedClasses x_madeClasses x_namedMethods x_liveMethods x_depth x_stepCount x_outCount x_traceCount : Int32} {x_isInterfaceClass x_chainOf x_interfacesOf x_ancestorsOf x_homeOf x_formOf x_nameOf x_lengthOf x_opOf x_classOf x_numberOf x_sourceMethod x_sourceLine x_callLine x_ruleKind x_ruleClasses x_ruleNames x_newNumber x_familyOf x_sightOf x_frameRow x_frameLine x_frameHeld x_outInts x_traceMethod x_traceLine : Nat → Int32} {C M R : Nat} {y_name : Nat → Int32}
theorem kn_M : ∀ a b, kn_p C M x_ancestorsOf x_homeOf y_name x_namedClasses x_namedMethods a b → a < M := fun _ _ h => h.1
theorem xJ_r (h10 : C ≤ 10) (g : mh_ok C M x_homeOf) (hC : x_classCount = nI C) (hM : x_methodCount = nI M) (hnm : ∀ m, m < M → x_nameOf m = y_name m) {post : SX → Prop} {J27 : Int32 → Int32 → (Nat → Int32) → (Nat → Int32) → (Nat → Int32) → (Nat → Int32) → (Nat → Int32) → (Nat → Int32) → (Nat → Int32) → (Nat → Int32) → (Nat → Int32) → (Nat → Int32) → (Nat → Int32) → (Nat → Int32) → (Nat → Int32) → (Nat → Int32) → (Nat → Int32) → (Nat → Int32) → (Nat → Int32) → (Nat → Int32) → (Nat → Int32) → (Nat → Int32) → (Nat → Int32) → (Nat → Int32) → (Nat → Int32) → (Nat → Int32) → (Nat → Int32) → (Nat → Int32) → Prop} {r : Nat}
    {f0 : Nat → Int32} (h0 : fy_p (kn_p C M x_ancestorsOf x_homeOf y_name x_namedClasses x_namedMethods) M f0)
    (K : ∀ fa j, fy_p (kn_p C M x_ancestorsOf x_homeOf y_name x_namedClasses x_namedMethods) M fa → (∀ m, m < M → hq_t (fa m) ≤ hq_t (f0 m)) → (∀ p q, kn_p C M x_ancestorsOf x_homeOf y_name x_namedClasses x_namedMethods p q → hq_t (fa p) ≤ hq_t (f0 q)) → (j = 0 ∨ j = 1) → (j = 0 → ∀ m, m < M → hq_t (fa m) = hq_t (f0 m)) → J27 j (nI (r + 1)) x_isInterfaceClass x_chainOf x_interfacesOf x_ancestorsOf x_homeOf x_formOf x_nameOf x_lengthOf x_opOf x_classOf x_numberOf x_sourceMethod x_sourceLine x_callLine x_ruleKind x_ruleClasses x_ruleNames x_newNumber fa x_sightOf x_frameRow x_frameLine x_frameHeld x_outInts x_traceMethod x_traceLine) :
    ∀ n i f fa j, i + n = M → n < f → fy_p (kn_p C M x_ancestorsOf x_homeOf y_name x_namedClasses x_namedMethods) M fa → (∀ m, m < M → hq_t (fa m) ≤ hq_t (f0 m)) → (∀ p q, p < i → kn_p C M x_ancestorsOf x_homeOf y_name x_namedClasses x_namedMethods p q → hq_t (fa p) ≤ hq_t (f0 q)) → (j = 0 ∨ j = 1) → (j = 0 → ∀ m, m < M → hq_t (fa m) = hq_t (f0 m)) →
      wX_joinFamilies_41 post J27 (nI r) x_classCount x_methodCount x_ruleCount x_isBuilt x_faultPlace x_namedClasses x_madeClasses x_namedMethods x_liveMethods x_depth x_stepCount x_outCount x_traceCount f j (nI i) x_isInterfaceClass x_chainOf x_interfacesOf x_ancestorsOf x_homeOf x_formOf x_nameOf x_lengthOf x_opOf x_classOf x_numberOf x_sourceMethod x_sourceLine x_callLine x_ruleKind x_ruleClasses x_ruleNames x_newNumber fa x_sightOf x_frameRow x_frameLine x_frameHeld x_outInts x_traceMethod x_traceLine := by
  have h30 := g.1
  intro n
  induction n with
  | zero =>
    intro i f fa j e hf a1 a2 a3 a4 a5
    obtain ⟨f, rfl⟩ : ∃ q, f = q + 1 := ⟨f - 1, by omega⟩
    have e : i = M := by omega
    subst e
    rw [wX_joinFamilies_41]
    exact br_t (by rw [hM]; exact nI_le (by omega) (by omega)) (nm_r (nI_1 r) (K fa j a1 a2 (fun p q k => a3 p q k.1 k) a4 a5))
  | succ n ih =>
    intro i f fa j e hf a1 a2 a3 a4 a5
    obtain ⟨f, rfl⟩ : ∃ q, f = q + 1 := ⟨f - 1, by omega⟩
    have i30 : vp_in (nI i) 30 := vp_in_nI (by omega) (by decide)
    obtain ⟨v1, v2, v3⟩ := fy_v h30 a1 (m := i) (by omega)
    rw [wX_joinFamilies_41]
    refine br_f (by rw [hM]; exact nI_ge (by omega) (by omega)) ?_
    refine xK_m h10 g hC hM hnm a1 (by omega) (fun k k1 k2 k3 => ⟨i30, ?_⟩)
    rw [nI_c (show i < 10000 by omega)]
    have he : hq_t (nI k) = k := hq_e (by omega)
    have nx : ∀ j', (j' = 0 ∨ j' = 1) → (j' = 0 → j = 0 ∧ k = hq_t (fa i)) → wX_joinFamilies_41 post J27 (nI r) x_classCount x_methodCount x_ruleCount x_isBuilt x_faultPlace x_namedClasses x_madeClasses x_namedMethods x_liveMethods x_depth x_stepCount x_outCount x_traceCount f j' (nI (i + 1)) x_isInterfaceClass x_chainOf x_interfacesOf x_ancestorsOf x_homeOf x_formOf x_nameOf x_lengthOf x_opOf x_classOf x_numberOf x_sourceMethod x_sourceLine x_callLine x_ruleKind x_ruleClasses x_ruleNames x_newNumber (upd fa i (nI k)) x_sightOf x_frameRow x_frameLine x_frameHeld x_outInts x_traceMethod x_traceLine := fun j' b1 b2 =>
      ih (i + 1) f _ j' (by omega) (by omega) (fun m hm => by
        by_cases c : m = i
        · subst c; rw [pk_us]; exact ⟨k, rfl, by omega, k2⟩
        · rw [pk_un c]; exact a1 m hm) (fun m hm => by
        by_cases c : m = i
        · subst c; rw [pk_us, he]; have := a2 m hm; omega
        · rw [pk_un c]; exact a2 m hm) (fun p q hp kq => by
        by_cases c : p = i
        · subst c; rw [pk_us, he]
          have x1 := k3 q kq
          have x2 := a2 q kq.2.1
          omega
        · rw [pk_un c]; exact a3 p q (by omega) kq) b1 (fun z m hm => by
        obtain ⟨y1, y2⟩ := b2 z
        by_cases c : m = i
        · subst c; rw [pk_us, he, y2]; exact a5 y1 m hm
        · rw [pk_un c]; exact a5 y1 m hm)
    refine pk_eq k (hq_t (fa i)) (fun w => ?_) (fun w => ?_) rfl v1
    · unfold wX_joinFamilies_73
      rw [nI_c (show i < 10000 by omega)]
      rcases a4 with z | z
      · subst z
        exact nm_r (show (0 : Int32) ||| 0 = 0 from by decide) ⟨i30, nm_e (nm_r (nI_1 i) (nx 0 (Or.inl rfl) (fun _ => ⟨rfl, w⟩)))⟩
      · subst z
        exact nm_r (show (1 : Int32) ||| 0 = 1 from by decide) ⟨i30, nm_e (nm_r (nI_1 i) (nx 1 (Or.inr rfl) (fun y => absurd y (by decide))))⟩
    · unfold wX_joinFamilies_73
      rw [nI_c (show i < 10000 by omega)]
      rcases a4 with z | z
      · subst z
        exact nm_r (show (0 : Int32) ||| 1 = 1 from by decide) ⟨i30, nm_e (nm_r (nI_1 i) (nx 1 (Or.inr rfl) (fun y => absurd y (by decide))))⟩
      · subst z
        exact nm_r (show (1 : Int32) ||| 1 = 1 from by decide) ⟨i30, nm_e (nm_r (nI_1 i) (nx 1 (Or.inr rfl) (fun y => absurd y (by decide))))⟩
theorem xJ_v (h10 : C ≤ 10) (g : mh_ok C M x_homeOf) (hC : x_classCount = nI C) (hM : x_methodCount = nI M) (hnm : ∀ m, m < M → x_nameOf m = y_name m) {post : SX → Prop}
    (K : ∀ fa, (∀ m, m < M → fa m = nI (kn_f C M x_ancestorsOf x_homeOf y_name x_namedClasses x_namedMethods m)) → post (x_classCount, x_methodCount, x_ruleCount, x_isBuilt, x_faultPlace, x_namedClasses, x_madeClasses, x_namedMethods, x_liveMethods, x_depth, x_stepCount, x_outCount, x_traceCount, x_isInterfaceClass, x_chainOf, x_interfacesOf, x_ancestorsOf, x_homeOf, x_formOf, x_nameOf, x_lengthOf, x_opOf, x_classOf, x_numberOf, x_sourceMethod, x_sourceLine, x_callLine, x_ruleKind, x_ruleClasses, x_ruleNames, x_newNumber, fa, x_sightOf, x_frameRow, x_frameLine, x_frameHeld, x_outInts, x_traceMethod, x_traceLine)) : wpX_joinFamilies post (x_classCount, x_methodCount, x_ruleCount, x_isBuilt, x_faultPlace, x_namedClasses, x_madeClasses, x_namedMethods, x_liveMethods, x_depth, x_stepCount, x_outCount, x_traceCount, x_isInterfaceClass, x_chainOf, x_interfacesOf, x_ancestorsOf, x_homeOf, x_formOf, x_nameOf, x_lengthOf, x_opOf, x_classOf, x_numberOf, x_sourceMethod, x_sourceLine, x_callLine, x_ruleKind, x_ruleClasses, x_ruleNames, x_newNumber, x_familyOf, x_sightOf, x_frameRow, x_frameLine, x_frameHeld, x_outInts, x_traceMethod, x_traceLine) := by
  have h30 := g.1
  have done : ∀ fa, fy_p (kn_p C M x_ancestorsOf x_homeOf y_name x_namedClasses x_namedMethods) M fa → (∀ m, fw_f M fa m = kn_f C M x_ancestorsOf x_homeOf y_name x_namedClasses x_namedMethods m) → post (x_classCount, x_methodCount, x_ruleCount, x_isBuilt, x_faultPlace, x_namedClasses, x_madeClasses, x_namedMethods, x_liveMethods, x_depth, x_stepCount, x_outCount, x_traceCount, x_isInterfaceClass, x_chainOf, x_interfacesOf, x_ancestorsOf, x_homeOf, x_formOf, x_nameOf, x_lengthOf, x_opOf, x_classOf, x_numberOf, x_sourceMethod, x_sourceLine, x_callLine, x_ruleKind, x_ruleClasses, x_ruleNames, x_newNumber, fa, x_sightOf, x_frameRow, x_frameLine, x_frameHeld, x_outInts, x_traceMethod, x_traceLine) := fun fa h s => K fa (fun m hm => by
    have := s m
    rw [fw_i hm] at this
    rw [(fy_v h30 h hm).1, this])
  have lo : ∀ n r f fa j, r + n = 30 → n < f → fy_p (kn_p C M x_ancestorsOf x_homeOf y_name x_namedClasses x_namedMethods) M fa → (j = 0 ∨ j = 1) → (j = 0 → ∀ m, fw_f M fa m = kn_f C M x_ancestorsOf x_homeOf y_name x_namedClasses x_namedMethods m) → ((∀ m, fw_f M fa m = kn_f C M x_ancestorsOf x_homeOf y_name x_namedClasses x_namedMethods m) ∨ r ≤ pc_n (fun m => decide (fw_f M fa m = kn_f C M x_ancestorsOf x_homeOf y_name x_namedClasses x_namedMethods m)) M) →
      wX_joinFamilies_27 post x_classCount x_methodCount x_ruleCount x_isBuilt x_faultPlace x_namedClasses x_madeClasses x_namedMethods x_liveMethods x_depth x_stepCount x_outCount x_traceCount f j (nI r) x_isInterfaceClass x_chainOf x_interfacesOf x_ancestorsOf x_homeOf x_formOf x_nameOf x_lengthOf x_opOf x_classOf x_numberOf x_sourceMethod x_sourceLine x_callLine x_ruleKind x_ruleClasses x_ruleNames x_newNumber fa x_sightOf x_frameRow x_frameLine x_frameHeld x_outInts x_traceMethod x_traceLine := by
    intro n
    induction n with
    | zero =>
      intro r f fa j e hf a1 a2 a3 a4
      obtain ⟨f, rfl⟩ : ∃ q, f = q + 1 := ⟨f - 1, by omega⟩
      rw [wX_joinFamilies_27]
      refine br_t (nI_le (a := 30) (by omega) (by omega)) (done fa a1 ?_)
      rcases a4 with z | z
      · exact z
      · intro m
        by_cases c : m < M
        · exact of_decide_eq_true (pc_full (p := fun m => decide (fw_f M fa m = kn_f C M x_ancestorsOf x_homeOf y_name x_namedClasses x_namedMethods m)) (n := M) (by omega) m c)
        · rw [fw_o c]
          have h1 := fa_lc (kn_p C M x_ancestorsOf x_homeOf y_name x_namedClasses x_namedMethods) m
          have h2 := (h1 (fun x => x = m) (fun a b k => ⟨fun z => by have := k.1; omega, fun z => by have := k.2.1; omega⟩)).mp rfl
          exact h2.symm
    | succ n ih =>
      intro r f fa j e hf a1 a2 a3 a4
      obtain ⟨f, rfl⟩ : ∃ q, f = q + 1 := ⟨f - 1, by omega⟩
      rw [wX_joinFamilies_27]
      refine br_f (nI_ge (b := 30) (by omega) (by decide)) (br_c (fun z => done fa a1 (a3 z)) (fun z => ⟨M + 1, ?_⟩))
      refine xJ_r h10 g hC hM hnm a1 (fun fa' j' b1 b2 b3 b4 b5 => ?_) M 0 (M + 1) fa 0 (by omega) (by omega) a1 (fun m hm => Nat.le_refl _) (fun p q hp => by omega) (Or.inl rfl) (fun _ m hm => rfl)
      have n1 : ∀ m, fw_f M fa' m ≤ fw_f M fa m := fun m => by
        by_cases c : m < M
        · rw [fw_i c, fw_i c]; exact b2 m c
        · rw [fw_o c, fw_o c]; exact Nat.le_refl _
      have nk : ∀ a b, kn_p C M x_ancestorsOf x_homeOf y_name x_namedClasses x_namedMethods a b → fw_f M fa' a ≤ fw_f M fa b := fun a b k => by
        rw [fw_i k.1, fw_i k.2.1]; exact b3 a b k
      refine ih (r + 1) f fa' j' (by omega) (by omega) b1 b4 (fun j0 m => ?_) ?_
      · have same : ∀ m, fw_f M fa' m = fw_f M fa m := fun m => by
          by_cases c : m < M
          · rw [fw_i c, fw_i c]; exact b5 j0 m c
          · rw [fw_o c, fw_o c]
        refine fa_st (fun a b k => ?_) (fw_c h30 b1) (fw_l h30 b1) m
        have x1 := nk a b k
        have x2 := nk b a (kn_sy a b k)
        rw [same a] at x1
        rw [same b] at x2
        rw [same a, same b]; omega
      · rcases a4 with s | s
        · refine Or.inl (fun m => ?_)
          have x1 := n1 m
          have x2 := fa_ll (fw_c h30 b1 m)
          have x3 := s m
          have x4 : kn_f C M x_ancestorsOf x_homeOf y_name x_namedClasses x_namedMethods m = fa_lf (kn_p C M x_ancestorsOf x_homeOf y_name x_namedClasses x_namedMethods) m := rfl
          omega
        · rcases fa_rd (kn_sy (C := C) (M := M) (anc := x_ancestorsOf) (hom := x_homeOf) (nam := y_name) (N := x_namedClasses) (Q := x_namedMethods)) (M := M) (fun a b k => k.1) (fw_c h30 a1) (fw_l h30 a1) (fw_c h30 b1) n1 nk with w | w
          · refine Or.inl (fun m => ?_)
            have x1 := n1 m
            have x2 := fa_ll (fw_c h30 b1 m)
            have x3 := w m
            have x4 : kn_f C M x_ancestorsOf x_homeOf y_name x_namedClasses x_namedMethods m = fa_lf (kn_p C M x_ancestorsOf x_homeOf y_name x_namedClasses x_namedMethods) m := rfl
            omega
          · have w : pc_n (fun m => decide (fw_f M fa m = kn_f C M x_ancestorsOf x_homeOf y_name x_namedClasses x_namedMethods m)) M < pc_n (fun m => decide (fw_f M fa' m = kn_f C M x_ancestorsOf x_homeOf y_name x_namedClasses x_namedMethods m)) M := w
            exact Or.inr (by omega)
  have st : ∀ n i f fa, i + n = M → n < f → (∀ m, m < i → fa m = nI m) → wX_joinFamilies_2 post x_classCount x_methodCount x_ruleCount x_isBuilt x_faultPlace x_namedClasses x_madeClasses x_namedMethods x_liveMethods x_depth x_stepCount x_outCount x_traceCount f (nI i) x_isInterfaceClass x_chainOf x_interfacesOf x_ancestorsOf x_homeOf x_formOf x_nameOf x_lengthOf x_opOf x_classOf x_numberOf x_sourceMethod x_sourceLine x_callLine x_ruleKind x_ruleClasses x_ruleNames x_newNumber fa x_sightOf x_frameRow x_frameLine x_frameHeld x_outInts x_traceMethod x_traceLine := by
    intro n
    induction n with
    | zero =>
      intro i f fa e hf z
      obtain ⟨f, rfl⟩ : ∃ q, f = q + 1 := ⟨f - 1, by omega⟩
      have e : i = M := by omega
      subst e
      rw [wX_joinFamilies_2]
      refine br_t (by rw [hM]; exact nI_le (by omega) (by omega)) ⟨31, ?_⟩
      exact lo 30 0 31 fa 1 (by omega) (by omega) (fun m hm => ⟨m, z m hm, Nat.le_refl m, fa_cr _ m⟩) (Or.inr rfl) (fun y => absurd y (by decide)) (Or.inr (by omega))
    | succ n ih =>
      intro i f fa e hf z
      obtain ⟨f, rfl⟩ : ∃ q, f = q + 1 := ⟨f - 1, by omega⟩
      rw [wX_joinFamilies_2]
      refine br_f (by rw [hM]; exact nI_ge (by omega) (by omega)) ⟨vp_in_nI (by omega) (by decide), ?_⟩
      rw [nI_c (show i < 10000 by omega)]
      refine nm_e (nm_r (nI_1 i) (ih (i + 1) f _ (by omega) (by omega) (fun m hm => ?_)))
      by_cases c : m = i
      · subst c; exact pk_us
      · rw [pk_un c]; exact z m (by omega)
  unfold wpX_joinFamilies
  exact ⟨M + 1, st M 0 (M + 1) _ (by omega) (by omega) (fun m hm => by omega)⟩
end
end
section
/-! ===== families: Y ===== -/
theorem bq_2 (x : Int32) {a b : Nat} (ha : a < 32) (hb : b < 32) : x &&& (((1 : Int32) <<< (nI a &&& 31)) ||| ((1 : Int32) <<< (nI b &&& 31))) = (((1 : Int32) <<< (nI a &&& 31)) ||| ((1 : Int32) <<< (nI b &&& 31))) ↔ bt x a = true ∧ bt x b = true := by
  constructor
  · intro h
    have k : ∀ i, (i = a ∨ i = b) → bt x i = true := fun i hi => by
      have e : bt (x &&& (((1 : Int32) <<< (nI a &&& 31)) ||| ((1 : Int32) <<< (nI b &&& 31)))) i = true := by
        rw [h, b_or, bq_1 ha, bq_1 hb, Bool.or_eq_true, decide_eq_true_eq, decide_eq_true_eq]; exact hi
      rw [b_and, Bool.and_eq_true] at e
      exact e.1
    exact ⟨k a (Or.inl rfl), k b (Or.inr rfl)⟩
  · rintro ⟨h1, h2⟩
    apply b_ext
    intro i _
    rw [b_and, b_or, bq_1 ha, bq_1 hb]
    by_cases c : i = a
    · subst c; rw [h1]; exact Bool.true_and _
    · by_cases d : i = b
      · subst d; rw [h2]; exact Bool.true_and _
      · rw [decide_eq_false c, decide_eq_false d]; exact Bool.and_false _
theorem ps_lt {f g : Nat → Nat} : ∀ {n i : Nat}, i < n → g i < f i → (∀ j, j ≠ i → g j = f j) → ps_n g n < ps_n f n
  | 0, i, h, _, _ => by omega
  | n + 1, i, h, l, e => by
    show ps_n g n + g n < ps_n f n + f n
    by_cases c : i = n
    · subst c
      have : ps_n g i = ps_n f i := ps_c (fun y hy => e y (by omega))
      omega
    · have := ps_lt (n := n) (by omega) l e
      have := e n (by omega)
      omega
section
variable {y_classes y_methods y_rules y_place y_named y_made y_namedMethods y_live y_built y_depth y_steps y_outs y_ending : Int32} {y_isInterface y_isAbstract y_parent y_ancestors y_own y_many y_home y_name y_length y_op y_first y_second y_ruleKind y_ruleClasses y_ruleNames y_inlined y_number y_newName y_family y_vMethod y_vLine y_vHeld y_put : Nat → Int32} {C M R : Nat}
theorem yR_b (hl : ss_le y_live y_namedMethods) {A B : Prop} {m : Nat} (hm : m < 32) (t : bt y_namedMethods m = true → B) (f : ¬ bt y_namedMethods m = true → A) : wpY_remains (fun z => (z = 0 → A) ∧ (¬ z = 0 → B)) (y_classes, y_methods, y_rules, y_place, y_named, y_made, y_namedMethods, y_live, y_built, y_depth, y_steps, y_outs, y_ending, y_isInterface, y_isAbstract, y_parent, y_ancestors, y_own, y_many, y_home, y_name, y_length, y_op, y_first, y_second, y_ruleKind, y_ruleClasses, y_ruleNames, y_inlined, y_number, y_newName, y_family, y_vMethod, y_vLine, y_vHeld, y_put) (nI m) := by
  unfold wpY_remains
  dsimp only
  refine yb_p hm (fun z => ⟨rfl, br_1 (t ?_)⟩) (fun z => ⟨rfl, br_0 (f (fun q => z ?_))⟩)
  · rw [b_or, Bool.or_eq_true] at z
    exact z.elim (fun q => q) (fun q => hl m q)
  · rw [b_or, q]; rfl
theorem yM_b (h10 : C ≤ 10) (g : mh_ok C M y_home) (hC : y_classes = nI C) {A B : Prop} {p q : Nat} (hp : p < M) (hq : q < M) (en : y_name p = y_name q) (bp : bt y_namedMethods p = true) (bq : bt y_namedMethods q = true) (t : kn_p C M y_ancestors y_home y_name y_named y_namedMethods p q → B) (f : ¬ kn_p C M y_ancestors y_home y_name y_named y_namedMethods p q → A) :
    wpY_meet (fun z => (z = 0 → A) ∧ (¬ z = 0 → B)) (y_classes, y_methods, y_rules, y_place, y_named, y_made, y_namedMethods, y_live, y_built, y_depth, y_steps, y_outs, y_ending, y_isInterface, y_isAbstract, y_parent, y_ancestors, y_own, y_many, y_home, y_name, y_length, y_op, y_first, y_second, y_ruleKind, y_ruleClasses, y_ruleNames, y_inlined, y_number, y_newName, y_family, y_vMethod, y_vLine, y_vHeld, y_put) (nI p) (nI q) := by
  have h30 := g.1
  obtain ⟨op, lp⟩ := mh_h g h10 hp
  obtain ⟨oq, lq⟩ := mh_h g h10 hq
  unfold wpY_meet
  dsimp only
  rw [nI_c (show p < 10000 by omega), nI_c (show q < 10000 by omega), op, oq]
  refine ⟨vp_in_nI (by omega) (by decide), vp_in_nI (by omega) (by decide), nm_e ⟨C + 1, ?_⟩⟩
  have lo : ∀ k i g, i + k = C → k < g → (¬ ∃ d, d < i ∧ bt y_named d = true ∧ bt (y_ancestors d) (hq_t (y_home p)) = true ∧ bt (y_ancestors d) (hq_t (y_home q)) = true) →
      wY_meet_21 (fun z => (z = 0 → A) ∧ (¬ z = 0 → B)) (((1 : Int32) <<< (nI (hq_t (y_home p)) &&& 31)) ||| ((1 : Int32) <<< (nI (hq_t (y_home q)) &&& 31))) y_classes y_methods y_rules y_place y_named y_made y_namedMethods y_live y_built y_depth y_steps y_outs y_ending y_isInterface y_isAbstract y_parent y_ancestors y_own y_many y_home y_name y_length y_op y_first y_second y_ruleKind y_ruleClasses y_ruleNames y_inlined y_number y_newName y_family y_vMethod y_vLine y_vHeld y_put g (nI i) := by
    intro k
    induction k with
    | zero =>
      intro i g e hg z
      obtain ⟨g, rfl⟩ : ∃ q, g = q + 1 := ⟨g - 1, by omega⟩
      have e : i = C := by omega
      subst e
      rw [wY_meet_21]
      exact br_t (by rw [hC]; exact nI_le (by omega) (by omega)) (br_0 (f (fun k => z k.2.2.2.2.2)))
    | succ k ih =>
      intro i g e hg z
      obtain ⟨g, rfl⟩ : ∃ q, g = q + 1 := ⟨g - 1, by omega⟩
      have nx : ¬ (bt y_named i = true ∧ bt (y_ancestors i) (hq_t (y_home p)) = true ∧ bt (y_ancestors i) (hq_t (y_home q)) = true) → wY_meet_21 (fun z => (z = 0 → A) ∧ (¬ z = 0 → B)) (((1 : Int32) <<< (nI (hq_t (y_home p)) &&& 31)) ||| ((1 : Int32) <<< (nI (hq_t (y_home q)) &&& 31))) y_classes y_methods y_rules y_place y_named y_made y_namedMethods y_live y_built y_depth y_steps y_outs y_ending y_isInterface y_isAbstract y_parent y_ancestors y_own y_many y_home y_name y_length y_op y_first y_second y_ruleKind y_ruleClasses y_ruleNames y_inlined y_number y_newName y_family y_vMethod y_vLine y_vHeld y_put g (nI (i + 1)) := fun y =>
        ih (i + 1) g (by omega) (by omega) (fun ⟨d, hd, w⟩ => by
          rcases Nat.lt_or_ge d i with u | u
          · exact z ⟨d, u, w⟩
          · have : d = i := by omega
            subst this; exact y w)
      rw [wY_meet_21]
      refine br_f (by rw [hC]; exact nI_ge (by omega) (by omega)) (yb_b (by omega) (fun y => ⟨vp_in_nI (by omega) (by decide), ?_⟩) (fun y => nm_r (nI_1 i) (nx (fun k => y k.1))))
      rw [nI_c (show i < 10000 by omega)]
      exact ek_if (bq_2 _ (by omega) (by omega)) (fun x => br_1 (t ⟨hp, hq, bp, bq, en, i, by omega, y, x.1, x.2⟩)) (fun x => nm_r (nI_1 i) (nx (fun k => x k.2)))
  exact lo C 0 (C + 1) (by omega) (by omega) (fun ⟨d, hd, _⟩ => by omega)
theorem yJ_r (h10 : C ≤ 10) (g : mh_ok C M y_home) (hl : ss_le y_live y_namedMethods) (hC : y_classes = nI C) (hM : y_methods = nI M) {post : SY → Prop} {J25 : Int32 → (Nat → Int32) → (Nat → Int32) → (Nat → Int32) → (Nat → Int32) → (Nat → Int32) → (Nat → Int32) → (Nat → Int32) → (Nat → Int32) → (Nat → Int32) → (Nat → Int32) → (Nat → Int32) → (Nat → Int32) → (Nat → Int32) → (Nat → Int32) → (Nat → Int32) → (Nat → Int32) → (Nat → Int32) → (Nat → Int32) → (Nat → Int32) → (Nat → Int32) → (Nat → Int32) → (Nat → Int32) → (Nat → Int32) → Prop} {f0 : Nat → Int32}
    (K : ∀ fa j, fy_p (kn_p C M y_ancestors y_home y_name y_named y_namedMethods) M fa → (j = 0 ∧ fa = f0 ∧ (∀ p q, kn_p C M y_ancestors y_home y_name y_named y_namedMethods p q → hq_t (fa q) ≤ hq_t (fa p)) ∨ j = 1 ∧ ps_n (fun m => hq_t (fa m)) M < ps_n (fun m => hq_t (f0 m)) M) → J25 j y_isInterface y_isAbstract y_parent y_ancestors y_own y_many y_home y_name y_length y_op y_first y_second y_ruleKind y_ruleClasses y_ruleNames y_inlined y_number y_newName fa y_vMethod y_vLine y_vHeld y_put) :
    ∀ n i f fa j, i + n = M * M → n < f → fy_p (kn_p C M y_ancestors y_home y_name y_named y_namedMethods) M fa → (j = 0 ∧ fa = f0 ∧ (∀ p q, p * M + q < i → q < M → kn_p C M y_ancestors y_home y_name y_named y_namedMethods p q → hq_t (fa q) ≤ hq_t (fa p)) ∨ j = 1 ∧ ps_n (fun m => hq_t (fa m)) M < ps_n (fun m => hq_t (f0 m)) M) →
      wY_families_33 post J25 y_classes y_methods y_rules y_place y_named y_made y_namedMethods y_live y_built y_depth y_steps y_outs y_ending f j (nI i) y_isInterface y_isAbstract y_parent y_ancestors y_own y_many y_home y_name y_length y_op y_first y_second y_ruleKind y_ruleClasses y_ruleNames y_inlined y_number y_newName fa y_vMethod y_vLine y_vHeld y_put := by
  have h30 := g.1
  have hMM : M * M ≤ 900 := Nat.mul_le_mul h30 h30
  intro n
  induction n with
  | zero =>
    intro i f fa j e hf a1 a2
    obtain ⟨f, rfl⟩ : ∃ q, f = q + 1 := ⟨f - 1, by omega⟩
    have e : i = M * M := by omega
    subst e
    rw [wY_families_33]
    refine br_t (by rw [hM, pk_mul]; exact nI_le (by omega) (by omega)) (K fa j a1 ?_)
    rcases a2 with ⟨z1, z2, z3⟩ | z
    · refine Or.inl ⟨z1, z2, fun p q k => z3 p q ?_ k.2.1 k⟩
      have h1 := k.1
      have h2 := k.2.1
      calc p * M + q < p * M + M := by omega
        _ = (p + 1) * M := by rw [Nat.add_mul, Nat.one_mul]
        _ ≤ M * M := Nat.mul_le_mul_right M h1
    · exact Or.inr z
  | succ n ih =>
    intro i f fa j e hf a1 a2
    obtain ⟨f, rfl⟩ : ∃ q, f = q + 1 := ⟨f - 1, by omega⟩
    have M0 : 0 < M := by
      rcases Nat.eq_zero_or_pos M with z | z
      · subst z; omega
      · exact z
    have hi : i < M * M := by omega
    have pM : i / M < M := (Nat.div_lt_iff_lt_mul M0).mpr hi
    have qM : i % M < M := Nat.mod_lt i M0
    have dm : i / M * M + i % M = i := by rw [Nat.mul_comm]; exact Nat.div_add_mod i M
    have nx : (kn_p C M y_ancestors y_home y_name y_named y_namedMethods (i / M) (i % M) → hq_t (fa (i % M)) ≤ hq_t (fa (i / M))) → wY_families_33 post J25 y_classes y_methods y_rules y_place y_named y_made y_namedMethods y_live y_built y_depth y_steps y_outs y_ending f j (nI (i + 1)) y_isInterface y_isAbstract y_parent y_ancestors y_own y_many y_home y_name y_length y_op y_first y_second y_ruleKind y_ruleClasses y_ruleNames y_inlined y_number y_newName fa y_vMethod y_vLine y_vHeld y_put := fun y =>
      ih (i + 1) f fa j (by omega) (by omega) a1 (by
        rcases a2 with ⟨z1, z2, z3⟩ | z
        · refine Or.inl ⟨z1, z2, fun p q hpq hq k => ?_⟩
          rcases Nat.lt_or_ge (p * M + q) i with w | w
          · exact z3 p q w hq k
          · have ei : p * M + q = i := by omega
            have e1 : i / M = p := by
              rw [← ei, Nat.mul_comm, Nat.mul_add_div M0, Nat.div_eq_of_lt hq, Nat.add_zero]
            have e2 : i % M = q := by
              rw [← ei, Nat.mul_comm, Nat.mul_add_mod, Nat.mod_eq_of_lt hq]
            rw [e1, e2] at y
            exact y k
        · exact Or.inr z)
    obtain ⟨v1, v2, v3⟩ := fy_v h30 a1 (m := i / M) pM
    obtain ⟨w1, w2, w3⟩ := fy_v h30 a1 (m := i % M) qM
    have nM : ¬ y_methods = 0 := by rw [hM]; exact nI_ne0 M0 (by omega)
    have dv : nI i / y_methods = nI (i / M) := by rw [hM]; exact pk_div (by omega) M0 (by omega)
    have rm : nI i - nI i / y_methods * y_methods = nI (i % M) := by rw [hM]; exact pk_rem (by omega) M0 (by omega)
    rw [wY_families_33]
    refine br_f (by rw [hM, pk_mul]; exact nI_ge (by omega) (by omega)) ⟨nM, nm_r dv ⟨nM, nm_r rm ?_⟩⟩
    refine yR_b hl (by omega) (fun bp => yR_b hl (by omega) (fun bq => ⟨vp_in_nI (by omega) (by decide), vp_in_nI (by omega) (by decide), ?_⟩) (fun z => nm_r (nI_1 i) (nx (fun k => absurd k.2.2.2.1 z)))) (fun z => nm_r (nI_1 i) (nx (fun k => absurd k.2.2.1 z)))
    rw [nI_c (show i / M < 10000 by omega), nI_c (show i % M < 10000 by omega)]
    refine br_c (fun en => ⟨vp_in_nI (by omega) (by decide), vp_in_nI (by omega) (by decide), ?_⟩) (fun z => nm_r (nI_1 i) (nx (fun k => absurd k.2.2.2.2.1 z)))
    refine pk_le (hq_t (fa (i % M))) (hq_t (fa (i / M))) (fun y => nm_r (nI_1 i) (nx (fun _ => y))) (fun y => ?_) w1 v1
    refine yM_b h10 g hC pM qM en bp bq (fun k => ⟨vp_in_nI (by omega) (by decide), vp_in_nI (by omega) (by decide), ?_⟩) (fun k => nm_r (nI_1 i) (nx (fun q => absurd q k)))
    refine nm_e (nm_r (nI_1 i) (ih (i + 1) f _ 1 (by omega) (by omega) (fun m hm => ?_) (Or.inr ⟨rfl, ?_⟩)))
    · by_cases c : m = i % M
      · subst c
        rw [pk_us]
        exact ⟨hq_t (fa (i / M)), v1, by omega, fa_ct (fa_cs (fa_ck k)) v3⟩
      · rw [pk_un c]; exact a1 m hm
    · have lt : ps_n (fun m => hq_t (upd fa (i % M) (fa (i / M)) m)) M < ps_n (fun m => hq_t (fa m)) M := ps_lt (i := i % M) qM (by
        show hq_t (upd fa (i % M) (fa (i / M)) (i % M)) < hq_t (fa (i % M))
        rw [pk_us]; exact y) (fun m c => by
        show hq_t (upd fa (i % M) (fa (i / M)) m) = hq_t (fa m)
        rw [pk_un c])
      rcases a2 with ⟨_, z2, _⟩ | ⟨_, z2⟩
      · rw [← z2]; exact lt
      · omega
theorem yJ_v (h10 : C ≤ 10) (g : mh_ok C M y_home) (hl : ss_le y_live y_namedMethods) (hC : y_classes = nI C) (hM : y_methods = nI M) {post : SY → Prop}
    (K : ∀ fa, (∀ m, m < M → fa m = nI (kn_f C M y_ancestors y_home y_name y_named y_namedMethods m)) → post (y_classes, y_methods, y_rules, y_place, y_named, y_made, y_namedMethods, y_live, y_built, y_depth, y_steps, y_outs, y_ending, y_isInterface, y_isAbstract, y_parent, y_ancestors, y_own, y_many, y_home, y_name, y_length, y_op, y_first, y_second, y_ruleKind, y_ruleClasses, y_ruleNames, y_inlined, y_number, y_newName, fa, y_vMethod, y_vLine, y_vHeld, y_put)) : wpY_families post (y_classes, y_methods, y_rules, y_place, y_named, y_made, y_namedMethods, y_live, y_built, y_depth, y_steps, y_outs, y_ending, y_isInterface, y_isAbstract, y_parent, y_ancestors, y_own, y_many, y_home, y_name, y_length, y_op, y_first, y_second, y_ruleKind, y_ruleClasses, y_ruleNames, y_inlined, y_number, y_newName, y_family, y_vMethod, y_vLine, y_vHeld, y_put) := by
  have h30 := g.1
  have hMM : M * M ≤ 900 := Nat.mul_le_mul h30 h30
  have lo : ∀ s f fa, ps_n (fun m => hq_t (fa m)) M = s → s + 1 < f → fy_p (kn_p C M y_ancestors y_home y_name y_named y_namedMethods) M fa → wY_families_25 post y_classes y_methods y_rules y_place y_named y_made y_namedMethods y_live y_built y_depth y_steps y_outs y_ending f 1 y_isInterface y_isAbstract y_parent y_ancestors y_own y_many y_home y_name y_length y_op y_first y_second y_ruleKind y_ruleClasses y_ruleNames y_inlined y_number y_newName fa y_vMethod y_vLine y_vHeld y_put := by
    intro s
    induction s using Nat.strongRecOn with
    | ind s ih =>
      intro f fa es hf a1
      obtain ⟨f, rfl⟩ : ∃ q, f = q + 1 := ⟨f - 1, by omega⟩
      rw [wY_families_25]
      refine br_f (by decide) ⟨M * M + 1, ?_⟩
      refine yJ_r h10 g hl hC hM (f0 := fa) (fun fa' j b1 b2 => ?_) (M * M) 0 _ fa 0 (by omega) (by omega) a1 (Or.inl ⟨rfl, rfl, fun p q h => by omega⟩)
      rcases b2 with ⟨z1, z2, z3⟩ | ⟨z1, z2⟩
      · subst z1
        obtain ⟨f, rfl⟩ : ∃ q, f = q + 1 := ⟨f - 1, by omega⟩
        rw [wY_families_25]
        refine br_t rfl (K fa' (fun m hm => ?_))
        have s := fa_st (kin := kn_p C M y_ancestors y_home y_name y_named y_namedMethods) (fam := fw_f M fa') (fun a b k => by
          have x1 := z3 a b k
          have x2 := z3 b a (kn_sy a b k)
          rw [fw_i k.1, fw_i k.2.1]; omega) (fw_c h30 b1) (fw_l h30 b1) m
        rw [fw_i hm] at s
        rw [(fy_v h30 b1 hm).1, s]; rfl
      · subst z1
        exact ih _ (by omega) f fa' rfl (by omega) b1
  have st : ∀ n i f fa, i + n = M → n < f → (∀ m, m < i → fa m = nI m) → wY_families_2 post y_classes y_methods y_rules y_place y_named y_made y_namedMethods y_live y_built y_depth y_steps y_outs y_ending f (nI i) y_isInterface y_isAbstract y_parent y_ancestors y_own y_many y_home y_name y_length y_op y_first y_second y_ruleKind y_ruleClasses y_ruleNames y_inlined y_number y_newName fa y_vMethod y_vLine y_vHeld y_put := by
    intro n
    induction n with
    | zero =>
      intro i f fa e hf z
      obtain ⟨f, rfl⟩ : ∃ q, f = q + 1 := ⟨f - 1, by omega⟩
      have e : i = M := by omega
      subst e
      rw [wY_families_2]
      refine br_t (by rw [hM]; exact nI_le (by omega) (by omega)) ⟨ps_n (fun m => hq_t (fa m)) i + 2, ?_⟩
      exact lo _ _ fa rfl (by omega) (fun m hm => ⟨m, z m hm, Nat.le_refl m, fa_cr _ m⟩)
    | succ n ih =>
      intro i f fa e hf z
      obtain ⟨f, rfl⟩ : ∃ q, f = q + 1 := ⟨f - 1, by omega⟩
      rw [wY_families_2]
      refine br_f (by rw [hM]; exact nI_ge (by omega) (by omega)) ⟨vp_in_nI (by omega) (by decide), ?_⟩
      rw [nI_c (show i < 10000 by omega)]
      refine nm_e (nm_r (nI_1 i) (ih (i + 1) f _ (by omega) (by omega) (fun m hm => ?_)))
      by_cases c : m = i
      · subst c; exact pk_us
      · rw [pk_un c]; exact z m (by omega)
  unfold wpY_families
  exact ⟨M + 1, st M 0 (M + 1) _ (by omega) (by omega) (fun m hm => by omega)⟩
end
end
section
/-! ===== names: X ===== -/
section
variable {x_classCount x_methodCount x_ruleCount x_isBuilt x_faultPlace x_namedClasses x_madeClasses x_namedMethods x_liveMethods x_depth x_stepCount x_outCount x_traceCount : Int32} {x_isInterfaceClass x_chainOf x_interfacesOf x_ancestorsOf x_homeOf x_formOf x_nameOf x_lengthOf x_opOf x_classOf x_numberOf x_sourceMethod x_sourceLine x_callLine x_ruleKind x_ruleClasses x_ruleNames x_newNumber x_familyOf x_sightOf x_frameRow x_frameLine x_frameHeld x_outInts x_traceMethod x_traceLine : Nat → Int32} {C M R : Nat} {y_name : Nat → Int32}
theorem xV_l (h10 : C ≤ 10) (g : mh_ok C M x_homeOf) (hC : x_classCount = nI C) (hf : (∀ m, m < M → x_familyOf m = nI (kn_f C M x_ancestorsOf x_homeOf y_name x_namedClasses x_namedMethods m))) {post : SX → Prop} {J : Int32 → (Nat → Int32) → (Nat → Int32) → (Nat → Int32) → (Nat → Int32) → (Nat → Int32) → (Nat → Int32) → (Nat → Int32) → (Nat → Int32) → (Nat → Int32) → (Nat → Int32) → (Nat → Int32) → (Nat → Int32) → (Nat → Int32) → (Nat → Int32) → (Nat → Int32) → (Nat → Int32) → (Nat → Int32) → (Nat → Int32) → (Nat → Int32) → (Nat → Int32) → (Nat → Int32) → (Nat → Int32) → (Nat → Int32) → (Nat → Int32) → (Nat → Int32) → (Nat → Int32) → Prop} {i : Nat} (hi : i < M)
    (K : ∀ sg, (∀ f e, f < M → (bt (sg f) e = true ↔ ∃ m', m' < i + 1 ∧ e < C ∧ (bt x_namedMethods m' = true ∧ kn_f C M x_ancestorsOf x_homeOf y_name x_namedClasses x_namedMethods m' = f ∧ bt x_namedClasses e = true ∧ bt (x_ancestorsOf e) (hq_t (x_homeOf m')) = true))) → J (nI (i + 1)) x_isInterfaceClass x_chainOf x_interfacesOf x_ancestorsOf x_homeOf x_formOf x_nameOf x_lengthOf x_opOf x_classOf x_numberOf x_sourceMethod x_sourceLine x_callLine x_ruleKind x_ruleClasses x_ruleNames x_newNumber x_familyOf sg x_frameRow x_frameLine x_frameHeld x_outInts x_traceMethod x_traceLine) :
    ∀ n k fu sg, k + n = C → n < fu → (∀ f e, f < M → (bt (sg f) e = true ↔ ∃ m', (m' < i ∧ e < C ∨ m' = i ∧ e < k) ∧ (bt x_namedMethods m' = true ∧ kn_f C M x_ancestorsOf x_homeOf y_name x_namedClasses x_namedMethods m' = f ∧ bt x_namedClasses e = true ∧ bt (x_ancestorsOf e) (hq_t (x_homeOf m')) = true))) → wX_seeFamilies_35 post J (nI i) x_classCount x_methodCount x_ruleCount x_isBuilt x_faultPlace x_namedClasses x_madeClasses x_namedMethods x_liveMethods x_depth x_stepCount x_outCount x_traceCount fu (nI k) x_isInterfaceClass x_chainOf x_interfacesOf x_ancestorsOf x_homeOf x_formOf x_nameOf x_lengthOf x_opOf x_classOf x_numberOf x_sourceMethod x_sourceLine x_callLine x_ruleKind x_ruleClasses x_ruleNames x_newNumber x_familyOf sg x_frameRow x_frameLine x_frameHeld x_outInts x_traceMethod x_traceLine := by
  have h30 := g.1
  obtain ⟨o1, o2⟩ := mh_h g h10 hi
  have kl := kn_le (C := C) (M := M) (anc := x_ancestorsOf) (hom := x_homeOf) (nam := y_name) (N := x_namedClasses) (Q := x_namedMethods) i
  intro n
  induction n with
  | zero =>
    intro k fu sg e hfu z
    obtain ⟨fu, rfl⟩ : ∃ q, fu = q + 1 := ⟨fu - 1, by omega⟩
    have e : k = C := by omega
    subst e
    rw [wX_seeFamilies_35]
    refine br_t (by rw [hC]; exact nI_le (by omega) (by omega)) (nm_r (nI_1 i) (K sg (fun f e hfM => (z f e hfM).trans ⟨?_, ?_⟩)))
    · rintro ⟨m', h | h, b⟩
      · exact ⟨m', by omega, h.2, b⟩
      · exact ⟨m', by omega, h.2, b⟩
    · rintro ⟨m', h1, h2, b⟩
      rcases Nat.lt_or_ge m' i with w | w
      · exact ⟨m', Or.inl ⟨w, h2⟩, b⟩
      · exact ⟨m', Or.inr ⟨by omega, h2⟩, b⟩
  | succ n ih =>
    intro k fu sg e hfu z
    obtain ⟨fu, rfl⟩ : ∃ q, fu = q + 1 := ⟨fu - 1, by omega⟩
    have nx : ¬ (bt x_namedMethods i = true ∧ bt x_namedClasses k = true ∧ bt (x_ancestorsOf k) (hq_t (x_homeOf i)) = true) → wX_seeFamilies_35 post J (nI i) x_classCount x_methodCount x_ruleCount x_isBuilt x_faultPlace x_namedClasses x_madeClasses x_namedMethods x_liveMethods x_depth x_stepCount x_outCount x_traceCount fu (nI (k + 1)) x_isInterfaceClass x_chainOf x_interfacesOf x_ancestorsOf x_homeOf x_formOf x_nameOf x_lengthOf x_opOf x_classOf x_numberOf x_sourceMethod x_sourceLine x_callLine x_ruleKind x_ruleClasses x_ruleNames x_newNumber x_familyOf sg x_frameRow x_frameLine x_frameHeld x_outInts x_traceMethod x_traceLine := fun y =>
      ih (k + 1) fu sg (by omega) (by omega) (fun f e hfM => (z f e hfM).trans ⟨fun ⟨m', h, b⟩ => ⟨m', by omega, b⟩, fun ⟨m', h, b⟩ => by
        rcases h with h | h
        · exact ⟨m', Or.inl h, b⟩
        · rcases Nat.lt_or_ge e k with w | w
          · exact ⟨m', Or.inr ⟨h.1, w⟩, b⟩
          · have e1 : e = k := by omega
            have e2 := h.1
            subst e1 e2
            exact absurd ⟨b.1, b.2.2.1, b.2.2.2⟩ y⟩)
    rw [wX_seeFamilies_35]
    refine br_f (by rw [hC]; exact nI_ge (by omega) (by omega)) (xh_b (by omega) (fun b1 => xh_b (by omega) (fun b2 => ⟨vp_in_nI (by omega) (by decide), ?_⟩) (fun y => nm_r (nI_1 k) (nx (fun q => y q.2.1)))) (fun y => nm_r (nI_1 k) (nx (fun q => y q.1))))
    rw [nI_c (show i < 10000 by omega), o1]
    refine xd_b (by omega) (by omega) (fun b3 => ⟨vp_in_nI (by omega) (by decide), ?_⟩) (fun y => nm_r (nI_1 k) (nx (fun q => y q.2.2)))
    rw [hf i hi, nI_c (show kn_f C M x_ancestorsOf x_homeOf y_name x_namedClasses x_namedMethods i < 10000 by omega)]
    have i30 : vp_in (nI (kn_f C M x_ancestorsOf x_homeOf y_name x_namedClasses x_namedMethods i)) 30 := vp_in_nI (by omega) (by decide)
    refine ⟨i30, i30, nm_e (nm_r (nI_1 k) (ih (k + 1) fu _ (by omega) (by omega) (fun f e hfM => ?_)))⟩
    by_cases c : f = kn_f C M x_ancestorsOf x_homeOf y_name x_namedClasses x_namedMethods i
    · rw [c, pk_us, bq_o1 _ (by omega), z _ e (by omega)]
      constructor
      · rintro (⟨m', h, b⟩ | h)
        · exact ⟨m', by omega, b⟩
        · subst h; exact ⟨i, Or.inr ⟨rfl, by omega⟩, b1, rfl, b2, b3⟩
      · rintro ⟨m', h, b⟩
        rcases Nat.lt_or_ge e k with w | w
        · exact Or.inl ⟨m', by omega, b⟩
        · rcases h with h | h
          · exact Or.inl ⟨m', Or.inl h, b⟩
          · exact Or.inr (by omega)
    · rw [pk_un c, z f e hfM]
      constructor
      · rintro ⟨m', h, b⟩; exact ⟨m', by omega, b⟩
      · rintro ⟨m', h, b⟩
        rcases h with h | h
        · exact ⟨m', Or.inl h, b⟩
        · have e2 := h.1
          subst e2
          exact absurd b.2.1.symm c
theorem xV_v (h10 : C ≤ 10) (g : mh_ok C M x_homeOf) (hC : x_classCount = nI C) (hM : x_methodCount = nI M) (hf : (∀ m, m < M → x_familyOf m = nI (kn_f C M x_ancestorsOf x_homeOf y_name x_namedClasses x_namedMethods m))) {post : SX → Prop}
    (K : ∀ sg, (∀ f e, f < M → (bt (sg f) e = true ↔ sg_p C M x_ancestorsOf x_homeOf y_name x_namedClasses x_namedMethods f e)) → post (x_classCount, x_methodCount, x_ruleCount, x_isBuilt, x_faultPlace, x_namedClasses, x_madeClasses, x_namedMethods, x_liveMethods, x_depth, x_stepCount, x_outCount, x_traceCount, x_isInterfaceClass, x_chainOf, x_interfacesOf, x_ancestorsOf, x_homeOf, x_formOf, x_nameOf, x_lengthOf, x_opOf, x_classOf, x_numberOf, x_sourceMethod, x_sourceLine, x_callLine, x_ruleKind, x_ruleClasses, x_ruleNames, x_newNumber, x_familyOf, sg, x_frameRow, x_frameLine, x_frameHeld, x_outInts, x_traceMethod, x_traceLine)) : wpX_seeFamilies post (x_classCount, x_methodCount, x_ruleCount, x_isBuilt, x_faultPlace, x_namedClasses, x_madeClasses, x_namedMethods, x_liveMethods, x_depth, x_stepCount, x_outCount, x_traceCount, x_isInterfaceClass, x_chainOf, x_interfacesOf, x_ancestorsOf, x_homeOf, x_formOf, x_nameOf, x_lengthOf, x_opOf, x_classOf, x_numberOf, x_sourceMethod, x_sourceLine, x_callLine, x_ruleKind, x_ruleClasses, x_ruleNames, x_newNumber, x_familyOf, x_sightOf, x_frameRow, x_frameLine, x_frameHeld, x_outInts, x_traceMethod, x_traceLine) := by
  have h30 := g.1
  have lo : ∀ n i fu sg, i + n = M → n < fu → (∀ f e, f < M → (bt (sg f) e = true ↔ ∃ m', m' < i ∧ e < C ∧ (bt x_namedMethods m' = true ∧ kn_f C M x_ancestorsOf x_homeOf y_name x_namedClasses x_namedMethods m' = f ∧ bt x_namedClasses e = true ∧ bt (x_ancestorsOf e) (hq_t (x_homeOf m')) = true))) → wX_seeFamilies_25 post x_classCount x_methodCount x_ruleCount x_isBuilt x_faultPlace x_namedClasses x_madeClasses x_namedMethods x_liveMethods x_depth x_stepCount x_outCount x_traceCount fu (nI i) x_isInterfaceClass x_chainOf x_interfacesOf x_ancestorsOf x_homeOf x_formOf x_nameOf x_lengthOf x_opOf x_classOf x_numberOf x_sourceMethod x_sourceLine x_callLine x_ruleKind x_ruleClasses x_ruleNames x_newNumber x_familyOf sg x_frameRow x_frameLine x_frameHeld x_outInts x_traceMethod x_traceLine := by
    intro n
    induction n with
    | zero =>
      intro i fu sg e hfu z
      obtain ⟨fu, rfl⟩ : ∃ q, fu = q + 1 := ⟨fu - 1, by omega⟩
      have e : i = M := by omega
      subst e
      rw [wX_seeFamilies_25]
      refine br_t (by rw [hM]; exact nI_le (by omega) (by omega)) (K sg (fun f e hfM => (z f e hfM).trans ⟨?_, ?_⟩))
      · rintro ⟨m', h1, h2, b1, b2, b3, b4⟩; exact ⟨h2, b3, m', h1, b1, b2, b4⟩
      · rintro ⟨h2, b3, m', h1, b1, b2, b4⟩; exact ⟨m', h1, h2, b1, b2, b3, b4⟩
    | succ n ih =>
      intro i fu sg e hfu z
      obtain ⟨fu, rfl⟩ : ∃ q, fu = q + 1 := ⟨fu - 1, by omega⟩
      rw [wX_seeFamilies_25]
      refine br_f (by rw [hM]; exact nI_ge (by omega) (by omega)) ⟨C + 1, ?_⟩
      refine xV_l h10 g hC hf (by omega) (fun sg' z' => ih (i + 1) fu sg' (by omega) (by omega) z') C 0 (C + 1) sg (by omega) (by omega) (fun f e hfM => (z f e hfM).trans ⟨?_, ?_⟩)
      · rintro ⟨m', h1, h2, b⟩; exact ⟨m', Or.inl ⟨h1, h2⟩, b⟩
      · rintro ⟨m', h, b⟩
        rcases h with h | h
        · exact ⟨m', h.1, h.2, b⟩
        · omega
  have st : ∀ n i fu sg, i + n = M → n < fu → (∀ f, f < i → sg f = 0) → wX_seeFamilies_2 post x_classCount x_methodCount x_ruleCount x_isBuilt x_faultPlace x_namedClasses x_madeClasses x_namedMethods x_liveMethods x_depth x_stepCount x_outCount x_traceCount fu (nI i) x_isInterfaceClass x_chainOf x_interfacesOf x_ancestorsOf x_homeOf x_formOf x_nameOf x_lengthOf x_opOf x_classOf x_numberOf x_sourceMethod x_sourceLine x_callLine x_ruleKind x_ruleClasses x_ruleNames x_newNumber x_familyOf sg x_frameRow x_frameLine x_frameHeld x_outInts x_traceMethod x_traceLine := by
    intro n
    induction n with
    | zero =>
      intro i fu sg e hfu z
      obtain ⟨fu, rfl⟩ : ∃ q, fu = q + 1 := ⟨fu - 1, by omega⟩
      have e : i = M := by omega
      subst e
      rw [wX_seeFamilies_2]
      refine br_t (by rw [hM]; exact nI_le (by omega) (by omega)) ⟨i + 1, lo i 0 (i + 1) sg (by omega) (by omega) (fun f e hfM => ?_)⟩
      rw [z f hfM, b_0]
      exact ⟨fun y => absurd y (by decide), fun ⟨m', h, _⟩ => by omega⟩
    | succ n ih =>
      intro i fu sg e hfu z
      obtain ⟨fu, rfl⟩ : ∃ q, fu = q + 1 := ⟨fu - 1, by omega⟩
      rw [wX_seeFamilies_2]
      refine br_f (by rw [hM]; exact nI_ge (by omega) (by omega)) ⟨vp_in_nI (by omega) (by decide), ?_⟩
      rw [nI_c (show i < 10000 by omega)]
      refine nm_e (nm_r (nI_1 i) (ih (i + 1) fu _ (by omega) (by omega) (fun f hfi => ?_)))
      by_cases c : f = i
      · subst c; exact pk_us
      · rw [pk_un c]; exact z f (by omega)
  unfold wpX_seeFamilies
  exact ⟨M + 1, st M 0 (M + 1) _ (by omega) (by omega) (fun f hf => by omega)⟩
theorem xW_v {y_parent y_many y_isAbstract y_length y_op y_first y_second : Nat → Int32} (T : tp_p C M R x_isInterfaceClass x_ancestorsOf x_interfacesOf x_chainOf y_parent y_many x_homeOf x_ruleKind x_ruleClasses x_ruleNames x_formOf x_nameOf x_lengthOf y_isAbstract y_name y_length x_opOf x_classOf x_numberOf x_sourceMethod x_sourceLine x_callLine y_op y_first y_second) (hM : x_methodCount = nI M) (hR : x_ruleCount = nI R) (hf : (∀ m, m < M → x_familyOf m = nI (kn_f C M x_ancestorsOf x_homeOf y_name x_namedClasses x_namedMethods m))) {post : Int32 → Prop}
    (K : ∀ kept, (∀ f, bt kept f = true ↔ kp_p C M R x_ancestorsOf x_homeOf y_name x_ruleClasses x_ruleNames x_namedClasses x_namedMethods f) → post kept) : wpX_keptFamilies post (x_classCount, x_methodCount, x_ruleCount, x_isBuilt, x_faultPlace, x_namedClasses, x_madeClasses, x_namedMethods, x_liveMethods, x_depth, x_stepCount, x_outCount, x_traceCount, x_isInterfaceClass, x_chainOf, x_interfacesOf, x_ancestorsOf, x_homeOf, x_formOf, x_nameOf, x_lengthOf, x_opOf, x_classOf, x_numberOf, x_sourceMethod, x_sourceLine, x_callLine, x_ruleKind, x_ruleClasses, x_ruleNames, x_newNumber, x_familyOf, x_sightOf, x_frameRow, x_frameLine, x_frameHeld, x_outInts, x_traceMethod, x_traceLine) := by
  have h30 := T.2.2.1.1
  have h4 := T.2.2.2.2.2.2.1
  have inn : ∀ {J : Int32 → Int32 → Prop} {i : Nat}, i < M → (∀ v, (∀ f, bt v f = true ↔ ∃ m, m < i + 1 ∧ bt x_namedMethods m = true ∧ ru_p R x_homeOf y_name x_ruleClasses x_ruleNames m ∧ kn_f C M x_ancestorsOf x_homeOf y_name x_namedClasses x_namedMethods m = f) → J v (nI (i + 1))) →
      ∀ n k fu v, k + n = R → n < fu → (∀ f, bt v f = true ↔ (∃ m, m < i ∧ bt x_namedMethods m = true ∧ ru_p R x_homeOf y_name x_ruleClasses x_ruleNames m ∧ kn_f C M x_ancestorsOf x_homeOf y_name x_namedClasses x_namedMethods m = f) ∨
        (∃ r, r < k ∧ bt x_namedMethods i = true ∧ bt (x_ruleClasses r) (hq_t (x_homeOf i)) = true ∧ bt (x_ruleNames r) (hq_t (y_name i)) = true ∧ kn_f C M x_ancestorsOf x_homeOf y_name x_namedClasses x_namedMethods i = f)) → wX_keptFamilies_14 post J (nI i) x_classCount x_methodCount x_ruleCount x_isBuilt x_faultPlace x_namedClasses x_madeClasses x_namedMethods x_liveMethods x_depth x_stepCount x_outCount x_traceCount x_isInterfaceClass x_chainOf x_interfacesOf x_ancestorsOf x_homeOf x_formOf x_nameOf x_lengthOf x_opOf x_classOf x_numberOf x_sourceMethod x_sourceLine x_callLine x_ruleKind x_ruleClasses x_ruleNames x_newNumber x_familyOf x_sightOf x_frameRow x_frameLine x_frameHeld x_outInts x_traceMethod x_traceLine fu v (nI k) := by
    intro J i hi KJ n
    have kl := kn_le (C := C) (M := M) (anc := x_ancestorsOf) (hom := x_homeOf) (nam := y_name) (N := x_namedClasses) (Q := x_namedMethods) i
    induction n with
    | zero =>
      intro k fu v e hfu z
      obtain ⟨fu, rfl⟩ : ∃ q, fu = q + 1 := ⟨fu - 1, by omega⟩
      have e : k = R := by omega
      subst e
      rw [wX_keptFamilies_14]
      refine br_t (by rw [hR]; exact nI_le (by omega) (by omega)) (nm_r (nI_1 i) (KJ v (fun f => (z f).trans ⟨?_, ?_⟩)))
      · rintro (⟨m, h, b⟩ | ⟨r, hr, b1, b2, b3, b4⟩)
        · exact ⟨m, by omega, b⟩
        · exact ⟨i, by omega, b1, ⟨r, hr, b2, b3⟩, b4⟩
      · rintro ⟨m, h, b⟩
        rcases Nat.lt_or_ge m i with w | w
        · exact Or.inl ⟨m, w, b⟩
        · have : m = i := by omega
          subst this
          obtain ⟨b1, ⟨r, hr, b2, b3⟩, b4⟩ := b
          exact Or.inr ⟨r, hr, b1, b2, b3, b4⟩
    | succ n ih =>
      intro k fu v e hfu z
      obtain ⟨fu, rfl⟩ : ∃ q, fu = q + 1 := ⟨fu - 1, by omega⟩
      have nx : ¬ (bt x_namedMethods i = true ∧ bt (x_ruleClasses k) (hq_t (x_homeOf i)) = true ∧ bt (x_ruleNames k) (hq_t (y_name i)) = true) → wX_keptFamilies_14 post J (nI i) x_classCount x_methodCount x_ruleCount x_isBuilt x_faultPlace x_namedClasses x_madeClasses x_namedMethods x_liveMethods x_depth x_stepCount x_outCount x_traceCount x_isInterfaceClass x_chainOf x_interfacesOf x_ancestorsOf x_homeOf x_formOf x_nameOf x_lengthOf x_opOf x_classOf x_numberOf x_sourceMethod x_sourceLine x_callLine x_ruleKind x_ruleClasses x_ruleNames x_newNumber x_familyOf x_sightOf x_frameRow x_frameLine x_frameHeld x_outInts x_traceMethod x_traceLine fu v (nI (k + 1)) := fun y =>
        ih (k + 1) fu v (by omega) (by omega) (fun f => (z f).trans ⟨fun h => h.elim Or.inl (fun ⟨r, hr, b⟩ => Or.inr ⟨r, by omega, b⟩), fun h => h.elim Or.inl (fun ⟨r, hr, b1, b2, b3, b4⟩ => by
          rcases Nat.lt_or_ge r k with w | w
          · exact Or.inr ⟨r, w, b1, b2, b3, b4⟩
          · have : r = k := by omega
            subst this; exact absurd ⟨b1, b2, b3⟩ y)⟩)
      rw [wX_keptFamilies_14]
      refine br_f (by rw [hR]; exact nI_ge (by omega) (by omega)) (xh_b (by omega) (fun b1 => xu_b T hi (by omega) (fun b2 b3 => ⟨vp_in_nI (by omega) (by decide), ?_⟩) (fun y => nm_r (nI_1 k) (nx (fun q => y q.2)))) (fun y => nm_r (nI_1 k) (nx (fun q => y q.1))))
      rw [nI_c (show i < 10000 by omega), hf i hi]
      refine nm_e (nm_r (nI_1 k) (ih (k + 1) fu _ (by omega) (by omega) (fun f => ?_)))
      rw [bq_o1 _ (by omega), z f]
      constructor
      · rintro ((h | ⟨r, hr, b⟩) | h)
        · exact Or.inl h
        · exact Or.inr ⟨r, by omega, b⟩
        · exact Or.inr ⟨k, by omega, b1, b2, b3, h.symm⟩
      · rintro (h | ⟨r, hr, b⟩)
        · exact Or.inl (Or.inl h)
        · exact Or.inr b.2.2.2.symm
  have lo : ∀ n i fu v, i + n = M → n < fu → (∀ f, bt v f = true ↔ ∃ m, m < i ∧ bt x_namedMethods m = true ∧ ru_p R x_homeOf y_name x_ruleClasses x_ruleNames m ∧ kn_f C M x_ancestorsOf x_homeOf y_name x_namedClasses x_namedMethods m = f) → wX_keptFamilies_4 post x_classCount x_methodCount x_ruleCount x_isBuilt x_faultPlace x_namedClasses x_madeClasses x_namedMethods x_liveMethods x_depth x_stepCount x_outCount x_traceCount x_isInterfaceClass x_chainOf x_interfacesOf x_ancestorsOf x_homeOf x_formOf x_nameOf x_lengthOf x_opOf x_classOf x_numberOf x_sourceMethod x_sourceLine x_callLine x_ruleKind x_ruleClasses x_ruleNames x_newNumber x_familyOf x_sightOf x_frameRow x_frameLine x_frameHeld x_outInts x_traceMethod x_traceLine fu v (nI i) := by
    intro n
    induction n with
    | zero =>
      intro i fu v e hfu z
      obtain ⟨fu, rfl⟩ : ∃ q, fu = q + 1 := ⟨fu - 1, by omega⟩
      have e : i = M := by omega
      subst e
      rw [wX_keptFamilies_4]
      exact br_t (by rw [hM]; exact nI_le (by omega) (by omega)) (K v z)
    | succ n ih =>
      intro i fu v e hfu z
      obtain ⟨fu, rfl⟩ : ∃ q, fu = q + 1 := ⟨fu - 1, by omega⟩
      rw [wX_keptFamilies_4]
      refine br_f (by rw [hM]; exact nI_ge (by omega) (by omega)) ⟨R + 1, ?_⟩
      exact inn (by omega) (fun v' z' => ih (i + 1) fu v' (by omega) (by omega) z') R 0 (R + 1) v (by omega) (by omega) (fun f => (z f).trans ⟨Or.inl, fun h => h.elim (fun q => q) (fun ⟨r, hr, _⟩ => by omega)⟩)
  unfold wpX_keptFamilies
  exact ⟨M + 1, lo M 0 (M + 1) 0 (by omega) (by omega) (fun f => by
    rw [b_0]
    exact ⟨fun y => absurd y (by decide), fun ⟨m, h, _⟩ => by omega⟩)⟩
end
end
section
/-! ===== names: X, the new names ===== -/
section
variable {x_classCount x_methodCount x_ruleCount x_isBuilt x_faultPlace x_namedClasses x_madeClasses x_namedMethods x_liveMethods x_depth x_stepCount x_outCount x_traceCount : Int32} {x_isInterfaceClass x_chainOf x_interfacesOf x_ancestorsOf x_homeOf x_formOf x_nameOf x_lengthOf x_opOf x_classOf x_numberOf x_sourceMethod x_sourceLine x_callLine x_ruleKind x_ruleClasses x_ruleNames x_newNumber x_familyOf x_sightOf x_frameRow x_frameLine x_frameHeld x_outInts x_traceMethod x_traceLine : Nat → Int32} {C M R : Nat} {y_name : Nat → Int32}
theorem xs_m (hs : (∀ f e, f < M → (bt (x_sightOf f) e = true ↔ sg_p C M x_ancestorsOf x_homeOf y_name x_namedClasses x_namedMethods f e))) {f h : Nat} (hf : f < M) (hh : h < M) : (x_sightOf f &&& x_sightOf h) = 0 ↔ ¬ sg_m C M x_ancestorsOf x_homeOf y_name x_namedClasses x_namedMethods f h := by
  rw [bq_ze]
  constructor
  · rintro z ⟨d, a, b⟩
    refine z d ?_
    rw [b_and, Bool.and_eq_true]
    exact ⟨(hs f d hf).mpr a, (hs h d hh).mpr b⟩
  · intro z i y
    rw [b_and, Bool.and_eq_true] at y
    exact z ⟨i, (hs f i hf).mp y.1, (hs h i hh).mp y.2⟩
theorem xZ_v (h30 : M ≤ 30) (hM : x_methodCount = nI M) (hs : (∀ f e, f < M → (bt (x_sightOf f) e = true ↔ sg_p C M x_ancestorsOf x_homeOf y_name x_namedClasses x_namedMethods f e))) {nn : Nat → Int32} (hn : ∀ m, m < M → x_nameOf (30 + m) = nn m) {f : Nat} (hf : f < M) (ok : na_ok C M R x_ancestorsOf x_homeOf y_name x_ruleClasses x_ruleNames x_namedClasses x_namedMethods f nn) (nk : ¬ kp_p C M R x_ancestorsOf x_homeOf y_name x_ruleClasses x_ruleNames x_namedClasses x_namedMethods f) {post : Int32 → Prop}
    (hp : post (nI (le_o (na_tk C M x_ancestorsOf x_homeOf y_name x_namedClasses x_namedMethods nn f)))) : wpX_leastFreeName post (x_classCount, x_methodCount, x_ruleCount, x_isBuilt, x_faultPlace, x_namedClasses, x_madeClasses, x_namedMethods, x_liveMethods, x_depth, x_stepCount, x_outCount, x_traceCount, x_isInterfaceClass, x_chainOf, x_interfacesOf, x_ancestorsOf, x_homeOf, x_formOf, x_nameOf, x_lengthOf, x_opOf, x_classOf, x_numberOf, x_sourceMethod, x_sourceLine, x_callLine, x_ruleKind, x_ruleClasses, x_ruleNames, x_newNumber, x_familyOf, x_sightOf, x_frameRow, x_frameLine, x_frameHeld, x_outInts, x_traceMethod, x_traceLine) (nI f) := by
  obtain ⟨l30, ntk⟩ := na_tkS h30 hf ok nk
  obtain ⟨n, n30, ntn⟩ := na_30 h30 hf ok nk
  have below := (le_x ntn).2.1
  have fin : ∀ v, (∀ n, n < 30 → (bt v n = true ↔ na_tk C M x_ancestorsOf x_homeOf y_name x_namedClasses x_namedMethods nn f n)) → ∀ q i fu, i + q = le_o (na_tk C M x_ancestorsOf x_homeOf y_name x_namedClasses x_namedMethods nn f) → q < fu → wX_leastFreeName_63 post v x_classCount x_methodCount x_ruleCount x_isBuilt x_faultPlace x_namedClasses x_madeClasses x_namedMethods x_liveMethods x_depth x_stepCount x_outCount x_traceCount x_isInterfaceClass x_chainOf x_interfacesOf x_ancestorsOf x_homeOf x_formOf x_nameOf x_lengthOf x_opOf x_classOf x_numberOf x_sourceMethod x_sourceLine x_callLine x_ruleKind x_ruleClasses x_ruleNames x_newNumber x_familyOf x_sightOf x_frameRow x_frameLine x_frameHeld x_outInts x_traceMethod x_traceLine fu (nI i) (nI i) := by
    intro v hv q
    induction q with
    | zero =>
      intro i fu e hfu
      obtain ⟨fu, rfl⟩ : ∃ q, fu = q + 1 := ⟨fu - 1, by omega⟩
      have e : i = le_o (na_tk C M x_ancestorsOf x_homeOf y_name x_namedClasses x_namedMethods nn f) := by omega
      rw [wX_leastFreeName_63]
      refine br_f (nI_ge (b := 30) (by omega) (by decide)) (xh_b (by omega) (fun y => ?_) (fun _ => by rw [e]; exact hp))
      rw [e] at y
      exact absurd ((hv _ l30).mp y) ntk
    | succ q ih =>
      intro i fu e hfu
      obtain ⟨fu, rfl⟩ : ∃ q, fu = q + 1 := ⟨fu - 1, by omega⟩
      rw [wX_leastFreeName_63]
      exact br_f (nI_ge (b := 30) (by omega) (by decide)) (xh_b (by omega) (fun _ => nm_r (nI_1 i) (nm_r (nI_1 i) (ih (i + 1) fu (by omega) (by omega)))) (fun y => absurd ((hv i (by omega)).mpr (below i (by omega))) y))
  have lo : ∀ q i fu v, i + q = M → q < fu → (∀ n, n < 30 → (bt v n = true ↔ ∃ g, g < i ∧ nn g = nI n ∧ sg_m C M x_ancestorsOf x_homeOf y_name x_namedClasses x_namedMethods f g)) → wX_leastFreeName_4 post (nI f) x_classCount x_methodCount x_ruleCount x_isBuilt x_faultPlace x_namedClasses x_madeClasses x_namedMethods x_liveMethods x_depth x_stepCount x_outCount x_traceCount x_isInterfaceClass x_chainOf x_interfacesOf x_ancestorsOf x_homeOf x_formOf x_nameOf x_lengthOf x_opOf x_classOf x_numberOf x_sourceMethod x_sourceLine x_callLine x_ruleKind x_ruleClasses x_ruleNames x_newNumber x_familyOf x_sightOf x_frameRow x_frameLine x_frameHeld x_outInts x_traceMethod x_traceLine fu v (nI i) := by
    intro q
    induction q with
    | zero =>
      intro i fu v e hfu z
      obtain ⟨fu, rfl⟩ : ∃ q, fu = q + 1 := ⟨fu - 1, by omega⟩
      have e : i = M := by omega
      subst e
      rw [wX_leastFreeName_4]
      exact br_t (by rw [hM]; exact nI_le (by omega) (by omega)) ⟨_, fin v z _ 0 (le_o (na_tk C i x_ancestorsOf x_homeOf y_name x_namedClasses x_namedMethods nn f) + 1) (Nat.zero_add _) (by omega)⟩
    | succ q ih =>
      intro i fu v e hfu z
      obtain ⟨fu, rfl⟩ : ∃ q, fu = q + 1 := ⟨fu - 1, by omega⟩
      have nx : (∀ n, n < 30 → nn i = nI n → ¬ sg_m C M x_ancestorsOf x_homeOf y_name x_namedClasses x_namedMethods f i) → wX_leastFreeName_4 post (nI f) x_classCount x_methodCount x_ruleCount x_isBuilt x_faultPlace x_namedClasses x_madeClasses x_namedMethods x_liveMethods x_depth x_stepCount x_outCount x_traceCount x_isInterfaceClass x_chainOf x_interfacesOf x_ancestorsOf x_homeOf x_formOf x_nameOf x_lengthOf x_opOf x_classOf x_numberOf x_sourceMethod x_sourceLine x_callLine x_ruleKind x_ruleClasses x_ruleNames x_newNumber x_familyOf x_sightOf x_frameRow x_frameLine x_frameHeld x_outInts x_traceMethod x_traceLine fu v (nI (i + 1)) := fun y => ih (i + 1) fu v (by omega) (by omega) (fun n hn => (z n hn).trans ⟨fun ⟨g, hg, b⟩ => ⟨g, by omega, b⟩, fun ⟨g, hg, b⟩ => by
        rcases Nat.lt_or_ge g i with w | w
        · exact ⟨g, w, b⟩
        · have : g = i := by omega
          subst this; exact absurd b.2 (y n hn b.1)⟩)
      rw [wX_leastFreeName_4]
      refine br_f (by rw [hM]; exact nI_ge (by omega) (by omega)) ?_
      rw [nI_b30]
      refine ⟨vp_in_nI (by omega) (by decide), ?_⟩
      rw [nI_c (show 30 + i < 10000 by omega)]
      refine nm_r (hn i (by omega)) ?_
      rcases ok.1 i (by omega) with w | ⟨k, k30, ek, _⟩
      · exact br_t w (nm_r (nI_1 i) (nx (fun n hn y => by rw [w] at y; exact absurd y.symm (oI_n (by omega)))))
      · refine br_f (by rw [ek]; exact oI_n (by omega)) ⟨vp_in_nI (by omega) (by decide), vp_in_nI (by omega) (by decide), ?_⟩
        rw [nI_c (show f < 10000 by omega), nI_c (show i < 10000 by omega)]
        refine ek_if (xs_m hs hf (by omega)) (fun y => nm_r (nI_1 i) (nx (fun _ _ _ => y))) (fun y => nm_e (nm_r (nI_1 i) (ih (i + 1) fu _ (by omega) (by omega) (fun n hn => ?_))))
        rw [ek, bq_o1 _ (by omega), z n hn]
        constructor
        · rintro (⟨g, hg, b⟩ | h)
          · exact ⟨g, by omega, b⟩
          · subst h; exact ⟨i, by omega, ek, Classical.byContradiction y⟩
        · rintro ⟨g, hg, b1, b2⟩
          rcases Nat.lt_or_ge g i with w | w
          · exact Or.inl ⟨g, w, b1, b2⟩
          · have : g = i := by omega
            subst this
            rw [ek] at b1
            exact Or.inr ((nI_eq (by omega) (by omega)).mp b1).symm
  unfold wpX_leastFreeName
  exact ⟨M + 1, lo M 0 (M + 1) 0 (by omega) (by omega) (fun n hn => by
    rw [b_0]
    exact ⟨fun y => absurd y (by decide), fun ⟨m, h, _⟩ => by omega⟩)⟩
theorem xA_c (h30 : M ≤ 30) (hM : x_methodCount = nI M) (hf : (∀ m, m < M → x_familyOf m = nI (kn_f C M x_ancestorsOf x_homeOf y_name x_namedClasses x_namedMethods m))) {nn : Nat → Int32} {post : SX → Prop} {nm0 : Nat → Int32}
    (K : ∀ nm, (∀ j, j < 30 → nm j = nm0 j) → (∀ m, m < M → nm (30 + m) = nn (kn_f C M x_ancestorsOf x_homeOf y_name x_namedClasses x_namedMethods m)) → post (x_classCount, x_methodCount, x_ruleCount, x_isBuilt, x_faultPlace, x_namedClasses, x_madeClasses, x_namedMethods, x_liveMethods, x_depth, x_stepCount, x_outCount, x_traceCount, x_isInterfaceClass, x_chainOf, x_interfacesOf, x_ancestorsOf, x_homeOf, x_formOf, nm, x_lengthOf, x_opOf, x_classOf, x_numberOf, x_sourceMethod, x_sourceLine, x_callLine, x_ruleKind, x_ruleClasses, x_ruleNames, x_newNumber, x_familyOf, x_sightOf, x_frameRow, x_frameLine, x_frameHeld, x_outInts, x_traceMethod, x_traceLine)) :
    ∀ q i fu nm, i + q = M → q < fu → (∀ j, j < 30 → nm j = nm0 j) → (∀ m, m < i → nm (30 + m) = nn (kn_f C M x_ancestorsOf x_homeOf y_name x_namedClasses x_namedMethods m)) → (∀ m, i ≤ m → m < M → nm (30 + m) = nn m) → wX_nameFamilies_113 post x_classCount x_methodCount x_ruleCount x_isBuilt x_faultPlace x_namedClasses x_madeClasses x_namedMethods x_liveMethods x_depth x_stepCount x_outCount x_traceCount fu (nI i) x_isInterfaceClass x_chainOf x_interfacesOf x_ancestorsOf x_homeOf x_formOf nm x_lengthOf x_opOf x_classOf x_numberOf x_sourceMethod x_sourceLine x_callLine x_ruleKind x_ruleClasses x_ruleNames x_newNumber x_familyOf x_sightOf x_frameRow x_frameLine x_frameHeld x_outInts x_traceMethod x_traceLine := by
  intro q
  induction q with
  | zero =>
    intro i fu nm e hfu a1 a2 a3
    obtain ⟨fu, rfl⟩ : ∃ q, fu = q + 1 := ⟨fu - 1, by omega⟩
    have e : i = M := by omega
    subst e
    rw [wX_nameFamilies_113]
    exact br_t (by rw [hM]; exact nI_le (by omega) (by omega)) (K nm a1 a2)
  | succ q ih =>
    intro i fu nm e hfu a1 a2 a3
    obtain ⟨fu, rfl⟩ : ∃ q, fu = q + 1 := ⟨fu - 1, by omega⟩
    have kl := kn_le (C := C) (M := M) (anc := x_ancestorsOf) (hom := x_homeOf) (nam := y_name) (N := x_namedClasses) (Q := x_namedMethods) i
    have ki := kn_id (C := C) (M := M) (anc := x_ancestorsOf) (hom := x_homeOf) (nam := y_name) (N := x_namedClasses) (Q := x_namedMethods) i
    have val : nm (30 + kn_f C M x_ancestorsOf x_homeOf y_name x_namedClasses x_namedMethods i) = nn (kn_f C M x_ancestorsOf x_homeOf y_name x_namedClasses x_namedMethods i) := by
      rcases Nat.lt_or_ge (kn_f C M x_ancestorsOf x_homeOf y_name x_namedClasses x_namedMethods i) i with w | w
      · rw [a2 _ w, ki]
      · exact a3 _ w (by omega)
    rw [wX_nameFamilies_113]
    refine br_f (by rw [hM]; exact nI_ge (by omega) (by omega)) ⟨vp_in_nI (by omega) (by decide), ?_⟩
    rw [nI_c (show i < 10000 by omega), hf i (by omega), nI_b30, nI_b30, nI_c (show 30 + kn_f C M x_ancestorsOf x_homeOf y_name x_namedClasses x_namedMethods i < 10000 by omega), nI_c (show 30 + i < 10000 by omega), val]
    refine ⟨vp_in_nI (by omega) (by decide), vp_in_nI (by omega) (by decide), nm_e (nm_r (nI_1 i) (ih (i + 1) fu _ (by omega) (by omega) (fun j hj => ?_) (fun m hm => ?_) (fun m h1 h2 => ?_)))⟩
    · rw [pk_un (by omega)]; exact a1 j hj
    · by_cases c : m = i
      · subst c; exact pk_us
      · rw [pk_un (by omega)]; exact a2 m (by omega)
    · rw [pk_un (by omega)]; exact a3 m (by omega) h2
theorem xA_b (h30 : M ≤ 30) (hM : x_methodCount = nI M) (hf : (∀ m, m < M → x_familyOf m = nI (kn_f C M x_ancestorsOf x_homeOf y_name x_namedClasses x_namedMethods m))) (hs : (∀ f e, f < M → (bt (x_sightOf f) e = true ↔ sg_p C M x_ancestorsOf x_homeOf y_name x_namedClasses x_namedMethods f e))) (hnn : ∀ m, m < M → ∃ n, n < 10 ∧ y_name m = nI n) {kept : Int32} (hk : ∀ f, bt kept f = true ↔ kp_p C M R x_ancestorsOf x_homeOf y_name x_ruleClasses x_ruleNames x_namedClasses x_namedMethods f) {post : SX → Prop} {nm0 : Nat → Int32}
    (K : ∀ nm, (∀ j, j < 30 → nm j = nm0 j) → (∀ m, m < M → nm (30 + m) = na_it C M R x_ancestorsOf x_homeOf y_name x_ruleClasses x_ruleNames x_namedClasses x_namedMethods M (kn_f C M x_ancestorsOf x_homeOf y_name x_namedClasses x_namedMethods m)) → post (x_classCount, x_methodCount, x_ruleCount, x_isBuilt, x_faultPlace, x_namedClasses, x_madeClasses, x_namedMethods, x_liveMethods, x_depth, x_stepCount, x_outCount, x_traceCount, x_isInterfaceClass, x_chainOf, x_interfacesOf, x_ancestorsOf, x_homeOf, x_formOf, nm, x_lengthOf, x_opOf, x_classOf, x_numberOf, x_sourceMethod, x_sourceLine, x_callLine, x_ruleKind, x_ruleClasses, x_ruleNames, x_newNumber, x_familyOf, x_sightOf, x_frameRow, x_frameLine, x_frameHeld, x_outInts, x_traceMethod, x_traceLine)) :
    ∀ q i fu nm, i + q = M → q < fu → (∀ j, j < 30 → nm j = nm0 j) → (∀ m, m < M → nm (30 + m) = na_it C M R x_ancestorsOf x_homeOf y_name x_ruleClasses x_ruleNames x_namedClasses x_namedMethods i m) → wX_nameFamilies_54 post kept x_classCount x_methodCount x_ruleCount x_isBuilt x_faultPlace x_namedClasses x_madeClasses x_namedMethods x_liveMethods x_depth x_stepCount x_outCount x_traceCount fu (nI i) x_isInterfaceClass x_chainOf x_interfacesOf x_ancestorsOf x_homeOf x_formOf nm x_lengthOf x_opOf x_classOf x_numberOf x_sourceMethod x_sourceLine x_callLine x_ruleKind x_ruleClasses x_ruleNames x_newNumber x_familyOf x_sightOf x_frameRow x_frameLine x_frameHeld x_outInts x_traceMethod x_traceLine := by
  intro q
  induction q with
  | zero =>
    intro i fu nm e hfu a1 a2
    obtain ⟨fu, rfl⟩ : ∃ q, fu = q + 1 := ⟨fu - 1, by omega⟩
    have e : i = M := by omega
    subst e
    rw [wX_nameFamilies_54]
    exact br_t (by rw [hM]; exact nI_le (by omega) (by omega)) ⟨i + 1, xA_c h30 hM hf K i 0 (i + 1) nm (by omega) (by omega) a1 (fun m hm => by omega) (fun m _ h2 => a2 m h2)⟩
  | succ q ih =>
    intro i fu nm e hfu a1 a2
    obtain ⟨fu, rfl⟩ : ∃ q, fu = q + 1 := ⟨fu - 1, by omega⟩
    have kl := kn_le (C := C) (M := M) (anc := x_ancestorsOf) (hom := x_homeOf) (nam := y_name) (N := x_namedClasses) (Q := x_namedMethods) i
    have sk : ¬ (bt x_namedMethods i = true ∧ kn_f C M x_ancestorsOf x_homeOf y_name x_namedClasses x_namedMethods i = i ∧ ¬ kp_p C M R x_ancestorsOf x_homeOf y_name x_ruleClasses x_ruleNames x_namedClasses x_namedMethods i) → wX_nameFamilies_54 post kept x_classCount x_methodCount x_ruleCount x_isBuilt x_faultPlace x_namedClasses x_madeClasses x_namedMethods x_liveMethods x_depth x_stepCount x_outCount x_traceCount fu (nI (i + 1)) x_isInterfaceClass x_chainOf x_interfacesOf x_ancestorsOf x_homeOf x_formOf nm x_lengthOf x_opOf x_classOf x_numberOf x_sourceMethod x_sourceLine x_callLine x_ruleKind x_ruleClasses x_ruleNames x_newNumber x_familyOf x_sightOf x_frameRow x_frameLine x_frameHeld x_outInts x_traceMethod x_traceLine := fun y =>
      ih (i + 1) fu nm (by omega) (by omega) a1 (fun m hm => by rw [a2 m hm, show na_it C M R x_ancestorsOf x_homeOf y_name x_ruleClasses x_ruleNames x_namedClasses x_namedMethods (i + 1) = na_it C M R x_ancestorsOf x_homeOf y_name x_ruleClasses x_ruleNames x_namedClasses x_namedMethods i from if_neg y])
    rw [wX_nameFamilies_54]
    refine br_f (by rw [hM]; exact nI_ge (by omega) (by omega)) (xh_b (by omega) (fun b1 => ⟨vp_in_nI (by omega) (by decide), ?_⟩) (fun y => nm_r (nI_1 i) (sk (fun q => y q.1))))
    rw [nI_c (show i < 10000 by omega), hf i (by omega)]
    refine pk_eq (kn_f C M x_ancestorsOf x_homeOf y_name x_namedClasses x_namedMethods i) i (fun b2 => xh_b (by omega) (fun y => nm_r (nI_1 i) (sk (fun q => q.2.2 ((hk i).mp y)))) (fun y => ?_)) (fun y => nm_r (nI_1 i) (sk (fun q => y q.2.1)))
    have nk : ¬ kp_p C M R x_ancestorsOf x_homeOf y_name x_ruleClasses x_ruleNames x_namedClasses x_namedMethods i := fun q => y ((hk i).mpr q)
    refine xZ_v (nn := na_it C M R x_ancestorsOf x_homeOf y_name x_ruleClasses x_ruleNames x_namedClasses x_namedMethods i) h30 hM hs a2 (by omega) (na_all h30 hnn i (by omega)) nk ?_
    rw [nI_b30, nI_c (show 30 + i < 10000 by omega)]
    refine ⟨vp_in_nI (by omega) (by decide), nm_e (nm_r (nI_1 i) (ih (i + 1) fu _ (by omega) (by omega) (fun j hj => ?_) (fun m hm => ?_)))⟩
    · rw [pk_un (by omega)]; exact a1 j hj
    · rw [show na_it C M R x_ancestorsOf x_homeOf y_name x_ruleClasses x_ruleNames x_namedClasses x_namedMethods (i + 1) = upd (na_it C M R x_ancestorsOf x_homeOf y_name x_ruleClasses x_ruleNames x_namedClasses x_namedMethods i) i (nI (le_o (na_tk C M x_ancestorsOf x_homeOf y_name x_namedClasses x_namedMethods (na_it C M R x_ancestorsOf x_homeOf y_name x_ruleClasses x_ruleNames x_namedClasses x_namedMethods i) i))) from if_pos ⟨b1, b2, nk⟩]
      by_cases c : m = i
      · subst c; rw [pk_us, pk_us]
      · rw [pk_un (by omega), pk_un c]; exact a2 m hm
theorem xA_v {y_parent y_many y_isAbstract y_length y_op y_first y_second : Nat → Int32} (T : tp_p C M R x_isInterfaceClass x_ancestorsOf x_interfacesOf x_chainOf y_parent y_many x_homeOf x_ruleKind x_ruleClasses x_ruleNames x_formOf x_nameOf x_lengthOf y_isAbstract y_name y_length x_opOf x_classOf x_numberOf x_sourceMethod x_sourceLine x_callLine y_op y_first y_second) (hC : x_classCount = nI C) (hM : x_methodCount = nI M) (hR : x_ruleCount = nI R) (hf : (∀ m, m < M → x_familyOf m = nI (kn_f C M x_ancestorsOf x_homeOf y_name x_namedClasses x_namedMethods m))) {post : SX → Prop}
    (K : ∀ nm sg, (∀ j, j < 30 → nm j = x_nameOf j) → (∀ m, m < M → nm (30 + m) = na_it C M R x_ancestorsOf x_homeOf y_name x_ruleClasses x_ruleNames x_namedClasses x_namedMethods M (kn_f C M x_ancestorsOf x_homeOf y_name x_namedClasses x_namedMethods m)) → post (x_classCount, x_methodCount, x_ruleCount, x_isBuilt, x_faultPlace, x_namedClasses, x_madeClasses, x_namedMethods, x_liveMethods, x_depth, x_stepCount, x_outCount, x_traceCount, x_isInterfaceClass, x_chainOf, x_interfacesOf, x_ancestorsOf, x_homeOf, x_formOf, nm, x_lengthOf, x_opOf, x_classOf, x_numberOf, x_sourceMethod, x_sourceLine, x_callLine, x_ruleKind, x_ruleClasses, x_ruleNames, x_newNumber, x_familyOf, sg, x_frameRow, x_frameLine, x_frameHeld, x_outInts, x_traceMethod, x_traceLine)) : wpX_nameFamilies post (x_classCount, x_methodCount, x_ruleCount, x_isBuilt, x_faultPlace, x_namedClasses, x_madeClasses, x_namedMethods, x_liveMethods, x_depth, x_stepCount, x_outCount, x_traceCount, x_isInterfaceClass, x_chainOf, x_interfacesOf, x_ancestorsOf, x_homeOf, x_formOf, x_nameOf, x_lengthOf, x_opOf, x_classOf, x_numberOf, x_sourceMethod, x_sourceLine, x_callLine, x_ruleKind, x_ruleClasses, x_ruleNames, x_newNumber, x_familyOf, x_sightOf, x_frameRow, x_frameLine, x_frameHeld, x_outInts, x_traceMethod, x_traceLine) := by
  have h30 := T.2.2.1.1
  have h10 := T.1.1
  have hnn : ∀ m, m < M → ∃ n, n < 10 ∧ y_name m = nI n := fun m hm => by
    obtain ⟨⟨n, n10, _, e⟩, _⟩ := T.2.2.2.1 m hm
    exact ⟨n, n10, e⟩
  have hxn : ∀ m, m < M → x_nameOf m = y_name m := fun m hm => by
    obtain ⟨⟨n, n10, e1, e2⟩, _⟩ := T.2.2.2.1 m hm
    rw [e1, e2]
  unfold wpX_nameFamilies
  dsimp only
  refine xV_v h10 T.2.2.1 hC hM hf (fun sg hs => ?_)
  dsimp only
  refine xW_v T hM hR hf (fun kept hk => ⟨M + 1, ?_⟩)
  have lo : ∀ q i fu nm, i + q = M → q < fu → (∀ j, j < 30 → nm j = x_nameOf j) → (∀ m, m < i → nm (30 + m) = na_it C M R x_ancestorsOf x_homeOf y_name x_ruleClasses x_ruleNames x_namedClasses x_namedMethods 0 m) → wX_nameFamilies_11 post kept x_classCount x_methodCount x_ruleCount x_isBuilt x_faultPlace x_namedClasses x_madeClasses x_namedMethods x_liveMethods x_depth x_stepCount x_outCount x_traceCount fu (nI i) x_isInterfaceClass x_chainOf x_interfacesOf x_ancestorsOf x_homeOf x_formOf nm x_lengthOf x_opOf x_classOf x_numberOf x_sourceMethod x_sourceLine x_callLine x_ruleKind x_ruleClasses x_ruleNames x_newNumber x_familyOf sg x_frameRow x_frameLine x_frameHeld x_outInts x_traceMethod x_traceLine := by
    intro q
    induction q with
    | zero =>
      intro i fu nm e hfu a1 a2
      obtain ⟨fu, rfl⟩ : ∃ q, fu = q + 1 := ⟨fu - 1, by omega⟩
      have e : i = M := by omega
      subst e
      rw [wX_nameFamilies_11]
      exact br_t (by rw [hM]; exact nI_le (by omega) (by omega)) ⟨i + 1, xA_b h30 hM hf hs hnn hk (fun nm h1 h2 => K nm sg h1 h2) i 0 (i + 1) nm (by omega) (by omega) a1 a2⟩
    | succ q ih =>
      intro i fu nm e hfu a1 a2
      obtain ⟨fu, rfl⟩ : ∃ q, fu = q + 1 := ⟨fu - 1, by omega⟩
      have i60 : vp_in (nI (30 + i)) 60 := vp_in_nI (by omega) (by decide)
      have nx : ∀ v, v = na_it C M R x_ancestorsOf x_homeOf y_name x_ruleClasses x_ruleNames x_namedClasses x_namedMethods 0 i → wX_nameFamilies_11 post kept x_classCount x_methodCount x_ruleCount x_isBuilt x_faultPlace x_namedClasses x_madeClasses x_namedMethods x_liveMethods x_depth x_stepCount x_outCount x_traceCount fu (nI (i + 1)) x_isInterfaceClass x_chainOf x_interfacesOf x_ancestorsOf x_homeOf x_formOf (upd nm (30 + i) v) x_lengthOf x_opOf x_classOf x_numberOf x_sourceMethod x_sourceLine x_callLine x_ruleKind x_ruleClasses x_ruleNames x_newNumber x_familyOf sg x_frameRow x_frameLine x_frameHeld x_outInts x_traceMethod x_traceLine := fun v hv => ih (i + 1) fu _ (by omega) (by omega) (fun j hj => by rw [pk_un (by omega)]; exact a1 j hj) (fun m hm => by
        by_cases c : m = i
        · subst c; rw [pk_us]; exact hv
        · rw [pk_un (by omega)]; exact a2 m (by omega))
      rw [wX_nameFamilies_11]
      refine br_f (by rw [hM]; exact nI_ge (by omega) (by omega)) ?_
      rw [nI_b30, nI_c (show 30 + i < 10000 by omega), nI_c (show i < 10000 by omega)]
      refine (xh_b (by omega) (fun y => ⟨vp_in_nI (by omega) (by decide), i60, nm_e (nm_r (nI_1 i) (nx _ ?_))⟩) (fun y => ⟨i60, nm_e (nm_r (nI_1 i) (nx _ ?_))⟩))
      · rw [a1 i (by omega), hxn i (by omega)]
        exact (if_pos ((hk i).mp y)).symm
      · exact (if_neg (fun q => y ((hk i).mpr q))).symm
  exact lo M 0 (M + 1) _ (by omega) (by omega) (fun _ _ => rfl) (fun m hm => by omega)
end
end
section
/-! ===== names: Y ===== -/
section
variable {y_classes y_methods y_rules y_place y_named y_made y_namedMethods y_live y_built y_depth y_steps y_outs y_ending : Int32} {y_isInterface y_isAbstract y_parent y_ancestors y_own y_many y_home y_name y_length y_op y_first y_second y_ruleKind y_ruleClasses y_ruleNames y_inlined y_number y_newName y_family y_vMethod y_vLine y_vHeld y_put : Nat → Int32} {C M R : Nat}
theorem yG_v (h10 : C ≤ 10) (g : mh_ok C M y_home) (hl : ss_le y_live y_namedMethods) (hC : y_classes = nI C) (hM : y_methods = nI M) (hf : (∀ m, m < M → y_family m = nI (kn_f C M y_ancestors y_home y_name y_named y_namedMethods m))) {post : Int32 → Prop} {f : Nat} (hfM : f < M)
    (K : ∀ v, (∀ d, bt v d = true ↔ sg_p C M y_ancestors y_home y_name y_named y_namedMethods f d) → post v) : wpY_sight post (y_classes, y_methods, y_rules, y_place, y_named, y_made, y_namedMethods, y_live, y_built, y_depth, y_steps, y_outs, y_ending, y_isInterface, y_isAbstract, y_parent, y_ancestors, y_own, y_many, y_home, y_name, y_length, y_op, y_first, y_second, y_ruleKind, y_ruleClasses, y_ruleNames, y_inlined, y_number, y_newName, y_family, y_vMethod, y_vLine, y_vHeld, y_put) (nI f) := by
  have h30 := g.1
  have kl := kn_le (C := C) (M := M) (anc := y_ancestors) (hom := y_home) (nam := y_name) (N := y_named) (Q := y_namedMethods)
  have lo2 : ∀ h, (∀ e, bt h e = true ↔ ∃ m, m < M ∧ bt y_namedMethods m = true ∧ kn_f C M y_ancestors y_home y_name y_named y_namedMethods m = f ∧ hq_t (y_home m) = e) → ∀ q i fu v, i + q = C → q < fu →
      (∀ d, bt v d = true ↔ d < i ∧ bt y_named d = true ∧ ∃ m, m < M ∧ bt y_namedMethods m = true ∧ kn_f C M y_ancestors y_home y_name y_named y_namedMethods m = f ∧ bt (y_ancestors d) (hq_t (y_home m)) = true) → wY_sight_57 post h y_classes y_methods y_rules y_place y_named y_made y_namedMethods y_live y_built y_depth y_steps y_outs y_ending y_isInterface y_isAbstract y_parent y_ancestors y_own y_many y_home y_name y_length y_op y_first y_second y_ruleKind y_ruleClasses y_ruleNames y_inlined y_number y_newName y_family y_vMethod y_vLine y_vHeld y_put fu v (nI i) := by
    intro h hh q
    have mt : ∀ d, (y_ancestors d &&& h) = 0 ↔ ¬ ∃ m, m < M ∧ bt y_namedMethods m = true ∧ kn_f C M y_ancestors y_home y_name y_named y_namedMethods m = f ∧ bt (y_ancestors d) (hq_t (y_home m)) = true := fun d => by
      rw [bq_ze]
      constructor
      · rintro z ⟨m, a, b, c, e⟩
        refine z (hq_t (y_home m)) ?_
        rw [b_and, Bool.and_eq_true]
        exact ⟨e, (hh _).mpr ⟨m, a, b, c, rfl⟩⟩
      · intro z i y
        rw [b_and, Bool.and_eq_true] at y
        obtain ⟨m, a, b, c, e⟩ := (hh i).mp y.2
        exact z ⟨m, a, b, c, by rw [e]; exact y.1⟩
    induction q with
    | zero =>
      intro i fu v e hfu z
      obtain ⟨fu, rfl⟩ : ∃ q, fu = q + 1 := ⟨fu - 1, by omega⟩
      have e : i = C := by omega
      subst e
      rw [wY_sight_57]
      exact br_t (by rw [hC]; exact nI_le (by omega) (by omega)) (K v z)
    | succ q ih =>
      intro i fu v e hfu z
      obtain ⟨fu, rfl⟩ : ∃ q, fu = q + 1 := ⟨fu - 1, by omega⟩
      have nx : ¬ (bt y_named i = true ∧ ∃ m, m < M ∧ bt y_namedMethods m = true ∧ kn_f C M y_ancestors y_home y_name y_named y_namedMethods m = f ∧ bt (y_ancestors i) (hq_t (y_home m)) = true) → wY_sight_57 post h y_classes y_methods y_rules y_place y_named y_made y_namedMethods y_live y_built y_depth y_steps y_outs y_ending y_isInterface y_isAbstract y_parent y_ancestors y_own y_many y_home y_name y_length y_op y_first y_second y_ruleKind y_ruleClasses y_ruleNames y_inlined y_number y_newName y_family y_vMethod y_vLine y_vHeld y_put fu v (nI (i + 1)) := fun y =>
        ih (i + 1) fu v (by omega) (by omega) (fun d => (z d).trans ⟨fun ⟨a, b⟩ => ⟨by omega, b⟩, fun ⟨a, b⟩ => by
          rcases Nat.lt_or_ge d i with w | w
          · exact ⟨w, b⟩
          · have : d = i := by omega
            subst this; exact absurd b y⟩)
      rw [wY_sight_57]
      refine br_f (by rw [hC]; exact nI_ge (by omega) (by omega)) (yb_b (by omega) (fun y => ⟨vp_in_nI (by omega) (by decide), ?_⟩) (fun y => nm_r (nI_1 i) (nx (fun q => y q.1))))
      rw [nI_c (show i < 10000 by omega)]
      refine ek_if (mt i) (fun x => nm_r (nI_1 i) (nx (fun q => x q.2))) (fun x => nm_e (nm_r (nI_1 i) (ih (i + 1) fu _ (by omega) (by omega) (fun d => ?_))))
      rw [bq_o1 _ (by omega), z d]
      constructor
      · rintro (⟨a, b⟩ | h)
        · exact ⟨by omega, b⟩
        · subst h; exact ⟨by omega, y, Classical.byContradiction x⟩
      · rintro ⟨a, b⟩
        rcases Nat.lt_or_ge d i with w | w
        · exact Or.inl ⟨w, b⟩
        · exact Or.inr (by omega)
  have lo1 : ∀ q i fu h, i + q = M → q < fu → (∀ e, bt h e = true ↔ ∃ m, m < i ∧ bt y_namedMethods m = true ∧ kn_f C M y_ancestors y_home y_name y_named y_namedMethods m = f ∧ hq_t (y_home m) = e) → wY_sight_7 post (nI f) 0 y_classes y_methods y_rules y_place y_named y_made y_namedMethods y_live y_built y_depth y_steps y_outs y_ending y_isInterface y_isAbstract y_parent y_ancestors y_own y_many y_home y_name y_length y_op y_first y_second y_ruleKind y_ruleClasses y_ruleNames y_inlined y_number y_newName y_family y_vMethod y_vLine y_vHeld y_put fu h (nI i) := by
    intro q
    induction q with
    | zero =>
      intro i fu h e hfu z
      obtain ⟨fu, rfl⟩ : ∃ q, fu = q + 1 := ⟨fu - 1, by omega⟩
      have e : i = M := by omega
      subst e
      rw [wY_sight_7]
      refine br_t (by rw [hM]; exact nI_le (by omega) (by omega)) ⟨C + 1, lo2 h z C 0 (C + 1) 0 (by omega) (by omega) (fun d => ?_)⟩
      rw [b_0]
      exact ⟨fun y => absurd y (by decide), fun y => by omega⟩
    | succ q ih =>
      intro i fu h e hfu z
      obtain ⟨fu, rfl⟩ : ∃ q, fu = q + 1 := ⟨fu - 1, by omega⟩
      obtain ⟨o1, o2⟩ := mh_h g h10 (m := i) (by omega)
      have kli := kl i
      have nx : ¬ (bt y_namedMethods i = true ∧ kn_f C M y_ancestors y_home y_name y_named y_namedMethods i = f) → wY_sight_7 post (nI f) 0 y_classes y_methods y_rules y_place y_named y_made y_namedMethods y_live y_built y_depth y_steps y_outs y_ending y_isInterface y_isAbstract y_parent y_ancestors y_own y_many y_home y_name y_length y_op y_first y_second y_ruleKind y_ruleClasses y_ruleNames y_inlined y_number y_newName y_family y_vMethod y_vLine y_vHeld y_put fu h (nI (i + 1)) := fun y => ih (i + 1) fu h (by omega) (by omega) (fun e => (z e).trans ⟨fun ⟨m, a, b⟩ => ⟨m, by omega, b⟩, fun ⟨m, a, b⟩ => by
        rcases Nat.lt_or_ge m i with w | w
        · exact ⟨m, w, b⟩
        · have : m = i := by omega
          subst this; exact absurd ⟨b.1, b.2.1⟩ y⟩)
      rw [wY_sight_7]
      refine br_f (by rw [hM]; exact nI_ge (by omega) (by omega)) (yR_b hl (by omega) (fun y => ⟨vp_in_nI (by omega) (by decide), ?_⟩) (fun y => nm_r (nI_1 i) (nx (fun q => y q.1))))
      rw [nI_c (show i < 10000 by omega), hf i (by omega)]
      refine pk_eq (kn_f C M y_ancestors y_home y_name y_named y_namedMethods i) f (fun x => ⟨vp_in_nI (by omega) (by decide), ?_⟩) (fun x => nm_r (nI_1 i) (nx (fun q => x q.2)))
      rw [o1]
      refine nm_e (nm_r (nI_1 i) (ih (i + 1) fu _ (by omega) (by omega) (fun e => ?_)))
      rw [bq_o1 _ (by omega), z e]
      constructor
      · rintro (⟨m, a, b⟩ | w)
        · exact ⟨m, by omega, b⟩
        · exact ⟨i, by omega, y, x, w.symm⟩
      · rintro ⟨m, a, b⟩
        rcases Nat.lt_or_ge m i with w | w
        · exact Or.inl ⟨m, w, b⟩
        · have : m = i := by omega
          subst this; exact Or.inr b.2.2.symm
  unfold wpY_sight
  refine ⟨M + 1, lo1 M 0 (M + 1) 0 (by omega) (by omega) (fun e => ?_)⟩
  rw [b_0]
  exact ⟨fun y => absurd y (by decide), fun ⟨m, a, _⟩ => by omega⟩
theorem yT_b (h10 : C ≤ 10) (g : mh_ok C M y_home) (hl : ss_le y_live y_namedMethods) (hC : y_classes = nI C) (hM : y_methods = nI M) (hf : (∀ m, m < M → y_family m = nI (kn_f C M y_ancestors y_home y_name y_named y_namedMethods m))) {f n : Nat} (hfM : f < M) (hn : n < 2 ^ 31) {k : Nat} (ok : na_ok C M R y_ancestors y_home y_name y_ruleClasses y_ruleNames y_named y_namedMethods k y_newName) {A B : Prop}
    (tr : na_tk C M y_ancestors y_home y_name y_named y_namedMethods y_newName f n → B) (fa : ¬ na_tk C M y_ancestors y_home y_name y_named y_namedMethods y_newName f n → A) : wpY_isTaken (fun z => (z = 0 → A) ∧ (¬ z = 0 → B)) (y_classes, y_methods, y_rules, y_place, y_named, y_made, y_namedMethods, y_live, y_built, y_depth, y_steps, y_outs, y_ending, y_isInterface, y_isAbstract, y_parent, y_ancestors, y_own, y_many, y_home, y_name, y_length, y_op, y_first, y_second, y_ruleKind, y_ruleClasses, y_ruleNames, y_inlined, y_number, y_newName, y_family, y_vMethod, y_vLine, y_vHeld, y_put) (nI f) (nI n) := by
  have h30 := g.1
  have kl := kn_le (C := C) (M := M) (anc := y_ancestors) (hom := y_home) (nam := y_name) (N := y_named) (Q := y_namedMethods)
  unfold wpY_isTaken
  dsimp only
  refine yG_v h10 g hl hC hM hf hfM (fun mine hmine => ⟨M + 1, ?_⟩)
  have lo : ∀ q i fu, i + q = M → q < fu → (∀ h, h < i → y_newName h = nI n → ¬ sg_m C M y_ancestors y_home y_name y_named y_namedMethods f h) → wY_isTaken_9 (fun z => (z = 0 → A) ∧ (¬ z = 0 → B)) (nI n) mine y_classes y_methods y_rules y_place y_named y_made y_namedMethods y_live y_built y_depth y_steps y_outs y_ending y_isInterface y_isAbstract y_parent y_ancestors y_own y_many y_home y_name y_length y_op y_first y_second y_ruleKind y_ruleClasses y_ruleNames y_inlined y_number y_newName y_family y_vMethod y_vLine y_vHeld y_put fu (nI i) := by
    intro q
    induction q with
    | zero =>
      intro i fu e hfu z
      obtain ⟨fu, rfl⟩ : ∃ q, fu = q + 1 := ⟨fu - 1, by omega⟩
      have e : i = M := by omega
      subst e
      rw [wY_isTaken_9]
      exact br_t (by rw [hM]; exact nI_le (by omega) (by omega)) (br_0 (fa (fun ⟨h, a, b, c⟩ => z h a b c)))
    | succ q ih =>
      intro i fu e hfu z
      obtain ⟨fu, rfl⟩ : ∃ q, fu = q + 1 := ⟨fu - 1, by omega⟩
      have kli := kl i
      have nx : (y_newName i = nI n → ¬ sg_m C M y_ancestors y_home y_name y_named y_namedMethods f i) → wY_isTaken_9 (fun z => (z = 0 → A) ∧ (¬ z = 0 → B)) (nI n) mine y_classes y_methods y_rules y_place y_named y_made y_namedMethods y_live y_built y_depth y_steps y_outs y_ending y_isInterface y_isAbstract y_parent y_ancestors y_own y_many y_home y_name y_length y_op y_first y_second y_ruleKind y_ruleClasses y_ruleNames y_inlined y_number y_newName y_family y_vMethod y_vLine y_vHeld y_put fu (nI (i + 1)) := fun y => ih (i + 1) fu (by omega) (by omega) (fun h hh => by
        rcases Nat.lt_or_ge h i with w | w
        · exact z h w
        · have : h = i := by omega
          subst this; exact y)
      have no : (y_newName i = nI n → ¬ sg_m C M y_ancestors y_home y_name y_named y_namedMethods f i) → wY_isTaken_54 (fun z => (z = 0 → A) ∧ (¬ z = 0 → B)) (wY_isTaken_9 (fun z => (z = 0 → A) ∧ (¬ z = 0 → B)) (nI n) mine y_classes y_methods y_rules y_place y_named y_made y_namedMethods y_live y_built y_depth y_steps y_outs y_ending y_isInterface y_isAbstract y_parent y_ancestors y_own y_many y_home y_name y_length y_op y_first y_second y_ruleKind y_ruleClasses y_ruleNames y_inlined y_number y_newName y_family y_vMethod y_vLine y_vHeld y_put fu) (nI n) mine (nI i) y_classes y_methods y_rules y_place y_named y_made y_namedMethods y_live y_built y_depth y_steps y_outs y_ending y_isInterface y_isAbstract y_parent y_ancestors y_own y_many y_home y_name y_length y_op y_first y_second y_ruleKind y_ruleClasses y_ruleNames y_inlined y_number y_newName y_family y_vMethod y_vLine y_vHeld y_put := fun y => by
        unfold wY_isTaken_54 wY_isTaken_55
        exact br_t rfl (nm_r (nI_1 i) (nx y))
      have has : y_newName i = nI n → bt y_namedMethods i = true ∧ kn_f C M y_ancestors y_home y_name y_named y_namedMethods i = i := fun y => by
        rcases ok.1 i (by omega) with w | ⟨m, _, _, b⟩
        · rw [w] at y; exact absurd y.symm (oI_n (by omega))
        · exact b
      rw [wY_isTaken_9]
      refine br_f (by rw [hM]; exact nI_ge (by omega) (by omega)) (yR_b hl (by omega) (fun y => ⟨vp_in_nI (by omega) (by decide), ?_⟩) (fun y => no (fun w => absurd (has w).1 y)))
      rw [nI_c (show i < 10000 by omega), hf i (by omega)]
      refine pk_eq (kn_f C M y_ancestors y_home y_name y_named y_namedMethods i) i (fun x => ⟨vp_in_nI (by omega) (by decide), br_c (fun w => ?_) (fun w => no (fun v => absurd v w))⟩) (fun x => no (fun w => absurd (has w).2 x))
      unfold wY_isTaken_55
      refine br_f (by decide) (yG_v h10 g hl hC hM hf (by omega) (fun v hv => ?_))
      have mt : (v &&& mine) = 0 ↔ ¬ sg_m C M y_ancestors y_home y_name y_named y_namedMethods f i := by
        rw [bq_ze]
        constructor
        · rintro zz ⟨d, a, b⟩
          refine zz d ?_
          rw [b_and, Bool.and_eq_true]
          exact ⟨(hv d).mpr b, (hmine d).mpr a⟩
        · intro zz j yy
          rw [b_and, Bool.and_eq_true] at yy
          exact zz ⟨j, (hmine j).mp yy.2, (hv j).mp yy.1⟩
      exact ek_if mt (fun u => nm_r (nI_1 i) (nx (fun _ => u))) (fun u => br_1 (tr ⟨i, by omega, w, Classical.byContradiction u⟩))
  exact lo M 0 (M + 1) (by omega) (by omega) (fun h hh => by omega)
theorem yA_b (h10 : C ≤ 10) (g : mh_ok C M y_home) (hl : ss_le y_live y_namedMethods) (hC : y_classes = nI C) (hM : y_methods = nI M) (hf : (∀ m, m < M → y_family m = nI (kn_f C M y_ancestors y_home y_name y_named y_namedMethods m))) (hnn : ∀ m, m < M → ∃ n, n < 10 ∧ y_name m = nI n) {post : SY → Prop}
    (K : ∀ nn, (∀ m, m < M → nn m = na_it C M R y_ancestors y_home y_name y_ruleClasses y_ruleNames y_named y_namedMethods M m) → post (y_classes, y_methods, y_rules, y_place, y_named, y_made, y_namedMethods, y_live, y_built, y_depth, y_steps, y_outs, y_ending, y_isInterface, y_isAbstract, y_parent, y_ancestors, y_own, y_many, y_home, y_name, y_length, y_op, y_first, y_second, y_ruleKind, y_ruleClasses, y_ruleNames, y_inlined, y_number, nn, y_family, y_vMethod, y_vLine, y_vHeld, y_put)) :
    ∀ q i fu nn, i + q = M → q < fu → (∀ m, m < M → nn m = na_it C M R y_ancestors y_home y_name y_ruleClasses y_ruleNames y_named y_namedMethods i m) → wY_rename_75 post y_classes y_methods y_rules y_place y_named y_made y_namedMethods y_live y_built y_depth y_steps y_outs y_ending fu (nI i) y_isInterface y_isAbstract y_parent y_ancestors y_own y_many y_home y_name y_length y_op y_first y_second y_ruleKind y_ruleClasses y_ruleNames y_inlined y_number nn y_family y_vMethod y_vLine y_vHeld y_put := by
  have h30 := g.1
  have kl := kn_le (C := C) (M := M) (anc := y_ancestors) (hom := y_home) (nam := y_name) (N := y_named) (Q := y_namedMethods)
  intro q
  induction q with
  | zero =>
    intro i fu nn e hfu a
    obtain ⟨fu, rfl⟩ : ∃ q, fu = q + 1 := ⟨fu - 1, by omega⟩
    have e : i = M := by omega
    subst e
    rw [wY_rename_75]
    exact br_t (by rw [hM]; exact nI_le (by omega) (by omega)) (K nn a)
  | succ q ih =>
    intro i fu nn e hfu a
    obtain ⟨fu, rfl⟩ : ∃ q, fu = q + 1 := ⟨fu - 1, by omega⟩
    have kli := kl i
    have hi : i < M := by omega
    have ok0 := na_all (C := C) (R := R) (anc := y_ancestors) (hom := y_home) (rc := y_ruleClasses) (rn := y_ruleNames) (N := y_named) (Q := y_namedMethods) h30 hnn i (by omega)
    have ok : na_ok C M R y_ancestors y_home y_name y_ruleClasses y_ruleNames y_named y_namedMethods i nn := by
      obtain ⟨p1, p2, p3, p4, p5⟩ := ok0
      refine ⟨fun h hh => by rw [a h hh]; exact p1 h hh, fun h k hh hk ne => by rw [a h hh, a k hk]; exact p2 h k hh hk ne, fun h x y => by rw [a h y]; exact p3 h x y, fun h x => by rw [a h x]; exact p4 h x, fun h x y => by rw [a h y]; exact p5 h x y⟩
    have tke : ∀ n, na_tk C M y_ancestors y_home y_name y_named y_namedMethods nn i n ↔ na_tk C M y_ancestors y_home y_name y_named y_namedMethods (na_it C M R y_ancestors y_home y_name y_ruleClasses y_ruleNames y_named y_namedMethods i) i n := fun n => ⟨fun ⟨h, x, y, z⟩ => ⟨h, x, by rw [← a h x]; exact y, z⟩, fun ⟨h, x, y, z⟩ => ⟨h, x, by rw [a h x]; exact y, z⟩⟩
    have sk : ¬ (bt y_namedMethods i = true ∧ kn_f C M y_ancestors y_home y_name y_named y_namedMethods i = i ∧ ¬ kp_p C M R y_ancestors y_home y_name y_ruleClasses y_ruleNames y_named y_namedMethods i) → wY_rename_75 post y_classes y_methods y_rules y_place y_named y_made y_namedMethods y_live y_built y_depth y_steps y_outs y_ending fu (nI (i + 1)) y_isInterface y_isAbstract y_parent y_ancestors y_own y_many y_home y_name y_length y_op y_first y_second y_ruleKind y_ruleClasses y_ruleNames y_inlined y_number nn y_family y_vMethod y_vLine y_vHeld y_put := fun y =>
      ih (i + 1) fu nn (by omega) (by omega) (fun m hm => by rw [a m hm, show na_it C M R y_ancestors y_home y_name y_ruleClasses y_ruleNames y_named y_namedMethods (i + 1) = na_it C M R y_ancestors y_home y_name y_ruleClasses y_ruleNames y_named y_namedMethods i from if_neg y])
    rw [wY_rename_75]
    refine br_f (by rw [hM]; exact nI_ge (by omega) (by omega)) (yR_b hl (by omega) (fun b1 => ⟨vp_in_nI (by omega) (by decide), ?_⟩) (fun y => nm_r (nI_1 i) (sk (fun q => y q.1))))
    rw [nI_c (show i < 10000 by omega), hf i (by omega)]
    refine pk_eq (kn_f C M y_ancestors y_home y_name y_named y_namedMethods i) i (fun b2 => ⟨vp_in_nI (by omega) (by decide), br_c (fun y => ?_) (fun y => nm_r (nI_1 i) (sk (fun q => ?_)))⟩) (fun y => nm_r (nI_1 i) (sk (fun q => y q.2.1)))
    · have nk : ¬ kp_p C M R y_ancestors y_home y_name y_ruleClasses y_ruleNames y_named y_namedMethods i := fun kp => by
        obtain ⟨n, n10, en⟩ := hnn i hi
        rw [ok.2.2.2.1 i hi kp, en] at y
        exact nI_pos (by omega) y
      obtain ⟨l30, ntk⟩ := na_tkS h30 hi ok0 nk
      obtain ⟨n0, n30, ntn⟩ := na_30 h30 hi ok0 nk
      have below := (le_x ntn).2.1
      have wl : ∀ q n g, n + q = le_o (na_tk C M y_ancestors y_home y_name y_named y_namedMethods (na_it C M R y_ancestors y_home y_name y_ruleClasses y_ruleNames y_named y_namedMethods i) i) → q < g → wY_rename_115 post (wY_rename_75 post y_classes y_methods y_rules y_place y_named y_made y_namedMethods y_live y_built y_depth y_steps y_outs y_ending fu) (nI i) y_classes y_methods y_rules y_place y_named y_made y_namedMethods y_live y_built y_depth y_steps y_outs y_ending y_isInterface y_isAbstract y_parent y_ancestors y_own y_many y_home y_name y_length y_op y_first y_second y_ruleKind y_ruleClasses y_ruleNames y_inlined y_number nn y_family y_vMethod y_vLine y_vHeld y_put g (nI n) := by
        intro q
        induction q with
        | zero =>
          intro n g' e hg
          obtain ⟨g', rfl⟩ : ∃ q, g' = q + 1 := ⟨g' - 1, by omega⟩
          have e : n = le_o (na_tk C M y_ancestors y_home y_name y_named y_namedMethods (na_it C M R y_ancestors y_home y_name y_ruleClasses y_ruleNames y_named y_namedMethods i) i) := by omega
          rw [wY_rename_115]
          refine yT_b h10 g hl hC hM hf hi (by omega) ok (fun t => ?_) (fun _ => ⟨vp_in_nI (by omega) (by decide), ?_⟩)
          · rw [e] at t
            exact absurd ((tke _).mp t) ntk
          · rw [nI_c (show i < 10000 by omega), e]
            refine nm_e (nm_r (nI_1 i) (ih (i + 1) fu _ (by omega) (by omega) (fun m hm => ?_)))
            rw [show na_it C M R y_ancestors y_home y_name y_ruleClasses y_ruleNames y_named y_namedMethods (i + 1) = upd (na_it C M R y_ancestors y_home y_name y_ruleClasses y_ruleNames y_named y_namedMethods i) i (nI (le_o (na_tk C M y_ancestors y_home y_name y_named y_namedMethods (na_it C M R y_ancestors y_home y_name y_ruleClasses y_ruleNames y_named y_namedMethods i) i))) from if_pos ⟨b1, b2, nk⟩]
            by_cases c : m = i
            · subst c; rw [pk_us, pk_us]
            · rw [pk_un c, pk_un c]; exact a m hm
        | succ q ih2 =>
          intro n g' e hg
          obtain ⟨g', rfl⟩ : ∃ q, g' = q + 1 := ⟨g' - 1, by omega⟩
          rw [wY_rename_115]
          exact yT_b h10 g hl hC hM hf hi (by omega) ok (fun _ => nm_r (nI_1 n) (ih2 (n + 1) g' (by omega) (by omega))) (fun y => absurd ((tke n).mpr (below n (by omega))) y)
      exact ⟨_, wl (le_o (na_tk C M y_ancestors y_home y_name y_named y_namedMethods (na_it C M R y_ancestors y_home y_name y_ruleClasses y_ruleNames y_named y_namedMethods i) i)) 0 (le_o (na_tk C M y_ancestors y_home y_name y_named y_namedMethods (na_it C M R y_ancestors y_home y_name y_ruleClasses y_ruleNames y_named y_namedMethods i) i) + 1) (by omega) (by omega)⟩
    · have := ok.2.2.1 i (Nat.le_refl i) hi q.2.2
      rw [this] at y
      exact y (by decide)
theorem yA_v {chn xform xname xlen xop xcl xnu xsm xsl xca : Nat → Int32} (T : tp_p C M R y_isInterface y_ancestors y_own chn y_parent y_many y_home y_ruleKind y_ruleClasses y_ruleNames xform xname xlen y_isAbstract y_name y_length xop xcl xnu xsm xsl xca y_op y_first y_second) (hl : ss_le y_live y_namedMethods) (hC : y_classes = nI C) (hM : y_methods = nI M) (hR : y_rules = nI R) (hf : (∀ m, m < M → y_family m = nI (kn_f C M y_ancestors y_home y_name y_named y_namedMethods m))) {post : SY → Prop}
    (K : ∀ nn, (∀ m, m < M → nn m = na_it C M R y_ancestors y_home y_name y_ruleClasses y_ruleNames y_named y_namedMethods M m) → post (y_classes, y_methods, y_rules, y_place, y_named, y_made, y_namedMethods, y_live, y_built, y_depth, y_steps, y_outs, y_ending, y_isInterface, y_isAbstract, y_parent, y_ancestors, y_own, y_many, y_home, y_name, y_length, y_op, y_first, y_second, y_ruleKind, y_ruleClasses, y_ruleNames, y_inlined, y_number, nn, y_family, y_vMethod, y_vLine, y_vHeld, y_put)) : wpY_rename post (y_classes, y_methods, y_rules, y_place, y_named, y_made, y_namedMethods, y_live, y_built, y_depth, y_steps, y_outs, y_ending, y_isInterface, y_isAbstract, y_parent, y_ancestors, y_own, y_many, y_home, y_name, y_length, y_op, y_first, y_second, y_ruleKind, y_ruleClasses, y_ruleNames, y_inlined, y_number, y_newName, y_family, y_vMethod, y_vLine, y_vHeld, y_put) := by
  have h30 := T.2.2.1.1
  have h10 := T.1.1
  have kl := kn_le (C := C) (M := M) (anc := y_ancestors) (hom := y_home) (nam := y_name) (N := y_named) (Q := y_namedMethods)
  have hnn : ∀ m, m < M → ∃ n, n < 10 ∧ y_name m = nI n := fun m hm => by
    obtain ⟨⟨n, n10, _, e⟩, _⟩ := T.2.2.2.1 m hm
    exact ⟨n, n10, e⟩
  have ru : ∀ m, (∃ r, r < R ∧ ¬ (2 : Int32) ≤ y_ruleKind r ∧ bt (y_ruleClasses r) (hq_t (y_home m)) = true ∧ bt (y_ruleNames r) (hq_t (y_name m)) = true) ↔ ru_p R y_home y_name y_ruleClasses y_ruleNames m := fun m => by
    constructor
    · rintro ⟨r, hr, _, b⟩; exact ⟨r, hr, b⟩
    · rintro ⟨r, hr, b⟩
      refine ⟨r, hr, ?_, b⟩
      rcases T.2.2.2.2.2.2.2 r hr with e | e <;> rw [e] <;> decide
  have lo2 : ∀ q i fu nn, i + q = M → q < fu → (∀ h, h < M → ((∃ m, m < i ∧ bt y_namedMethods m = true ∧ ru_p R y_home y_name y_ruleClasses y_ruleNames m ∧ kn_f C M y_ancestors y_home y_name y_named y_namedMethods m = h) → nn h = y_name h) ∧ (¬ (∃ m, m < i ∧ bt y_namedMethods m = true ∧ ru_p R y_home y_name y_ruleClasses y_ruleNames m ∧ kn_f C M y_ancestors y_home y_name y_named y_namedMethods m = h) → nn h = -1)) →
      wY_rename_25 post y_classes y_methods y_rules y_place y_named y_made y_namedMethods y_live y_built y_depth y_steps y_outs y_ending fu (nI i) y_isInterface y_isAbstract y_parent y_ancestors y_own y_many y_home y_name y_length y_op y_first y_second y_ruleKind y_ruleClasses y_ruleNames y_inlined y_number nn y_family y_vMethod y_vLine y_vHeld y_put := by
    intro q
    induction q with
    | zero =>
      intro i fu nn e hfu z
      obtain ⟨fu, rfl⟩ : ∃ q, fu = q + 1 := ⟨fu - 1, by omega⟩
      have e : i = M := by omega
      subst e
      rw [wY_rename_25]
      refine br_t (by rw [hM]; exact nI_le (by omega) (by omega)) ⟨i + 1, yA_b h10 T.2.2.1 hl hC hM hf hnn K i 0 (i + 1) nn (by omega) (by omega) (fun m hm => ?_)⟩
      by_cases k : kp_p C i R y_ancestors y_home y_name y_ruleClasses y_ruleNames y_named y_namedMethods m
      · rw [(z m hm).1 k]; exact (if_pos k).symm
      · rw [(z m hm).2 k]; exact (if_neg k).symm
    | succ q ih =>
      intro i fu nn e hfu z
      obtain ⟨fu, rfl⟩ : ∃ q, fu = q + 1 := ⟨fu - 1, by omega⟩
      have kli := kl i
      have nx : ¬ (bt y_namedMethods i = true ∧ ru_p R y_home y_name y_ruleClasses y_ruleNames i) → wY_rename_25 post y_classes y_methods y_rules y_place y_named y_made y_namedMethods y_live y_built y_depth y_steps y_outs y_ending fu (nI (i + 1)) y_isInterface y_isAbstract y_parent y_ancestors y_own y_many y_home y_name y_length y_op y_first y_second y_ruleKind y_ruleClasses y_ruleNames y_inlined y_number nn y_family y_vMethod y_vLine y_vHeld y_put := fun y => ih (i + 1) fu nn (by omega) (by omega) (fun h hh => ⟨fun ⟨m, hm, b⟩ => by
          rcases Nat.lt_or_ge m i with w | w
          · exact (z h hh).1 ⟨m, w, b⟩
          · have : m = i := by omega
            subst this; exact absurd ⟨b.1, b.2.1⟩ y, fun n => (z h hh).2 (fun ⟨m, hm, b⟩ => n ⟨m, by omega, b⟩)⟩)
      rw [wY_rename_25]
      refine br_f (by rw [hM]; exact nI_ge (by omega) (by omega)) (yR_b hl (by omega) (fun y => yu_b T hR (by omega) (fun x => ⟨vp_in_nI (by omega) (by decide), vp_in_nI (by omega) (by decide), ?_⟩) (fun x => nm_r (nI_1 i) (nx (fun q => x ((ru i).mpr q.2))))) (fun y => nm_r (nI_1 i) (nx (fun q => y q.1))))
      rw [nI_c (show i < 10000 by omega), hf i (by omega), nI_c (show kn_f C M y_ancestors y_home y_name y_named y_namedMethods i < 10000 by omega)]
      have nmi := kn_nm (C := C) (M := M) (anc := y_ancestors) (hom := y_home) (nam := y_name) (N := y_named) (Q := y_namedMethods) i
      refine ⟨vp_in_nI (by omega) (by decide), nm_e (nm_r (nI_1 i) (ih (i + 1) fu _ (by omega) (by omega) (fun h hh => ⟨fun ⟨m, hm, b⟩ => ?_, fun n => ?_⟩)))⟩
      · by_cases c : h = kn_f C M y_ancestors y_home y_name y_named y_namedMethods i
        · rw [c, pk_us]; exact nmi.symm
        · rw [pk_un c]
          rcases Nat.lt_or_ge m i with w | w
          · exact (z h hh).1 ⟨m, w, b⟩
          · have : m = i := by omega
            subst this; exact absurd b.2.2.symm c
      · have c : ¬ h = kn_f C M y_ancestors y_home y_name y_named y_namedMethods i := fun w => n ⟨i, by omega, y, (ru i).mp x, w.symm⟩
        rw [pk_un c]
        exact (z h hh).2 (fun ⟨m, hm, b⟩ => n ⟨m, by omega, b⟩)
  have lo1 : ∀ q i fu nn, i + q = M → q < fu → (∀ h, h < i → nn h = -1) → wY_rename_2 post y_classes y_methods y_rules y_place y_named y_made y_namedMethods y_live y_built y_depth y_steps y_outs y_ending fu (nI i) y_isInterface y_isAbstract y_parent y_ancestors y_own y_many y_home y_name y_length y_op y_first y_second y_ruleKind y_ruleClasses y_ruleNames y_inlined y_number nn y_family y_vMethod y_vLine y_vHeld y_put := by
    intro q
    induction q with
    | zero =>
      intro i fu nn e hfu z
      obtain ⟨fu, rfl⟩ : ∃ q, fu = q + 1 := ⟨fu - 1, by omega⟩
      have e : i = M := by omega
      subst e
      rw [wY_rename_2]
      exact br_t (by rw [hM]; exact nI_le (by omega) (by omega)) ⟨i + 1, lo2 i 0 (i + 1) nn (by omega) (by omega) (fun h hh => ⟨fun ⟨m, hm, _⟩ => by omega, fun _ => z h hh⟩)⟩
    | succ q ih =>
      intro i fu nn e hfu z
      obtain ⟨fu, rfl⟩ : ∃ q, fu = q + 1 := ⟨fu - 1, by omega⟩
      rw [wY_rename_2]
      refine br_f (by rw [hM]; exact nI_ge (by omega) (by omega)) ⟨vp_in_nI (by omega) (by decide), ?_⟩
      rw [nI_c (show i < 10000 by omega)]
      refine nm_e (nm_r (nI_1 i) (ih (i + 1) fu _ (by omega) (by omega) (fun h hh => ?_)))
      by_cases c : h = i
      · subst c; exact pk_us
      · rw [pk_un c]; exact z h (by omega)
  unfold wpY_rename
  exact ⟨M + 1, lo1 M 0 (M + 1) _ (by omega) (by omega) (fun h hh => by omega)⟩
end
end
section
/-! ===== X: renaming the calls ===== -/
def fv_v (F : Nat → Int32 → Option Nat) (xop xcl xname : Nat → Int32) (N : Nat → Int32) (j : Nat) : Int32 :=
  if xop j = 2 ∨ xop j = 3 then (match F (hq_t (xcl j)) (N j) with
    | some g => xname (30 + g)
    | none => -1) else N j
section
variable {x_classCount x_methodCount x_ruleCount x_isBuilt x_faultPlace x_namedClasses x_madeClasses x_namedMethods x_liveMethods x_depth x_stepCount x_outCount x_traceCount : Int32} {x_isInterfaceClass x_chainOf x_interfacesOf x_ancestorsOf x_homeOf x_formOf x_nameOf x_lengthOf x_opOf x_classOf x_numberOf x_sourceMethod x_sourceLine x_callLine x_ruleKind x_ruleClasses x_ruleNames x_newNumber x_familyOf x_sightOf x_frameRow x_frameLine x_frameHeld x_outInts x_traceMethod x_traceLine : Nat → Int32} {y_parent y_many y_isAbstract y_name y_length y_op y_first y_second : Nat → Int32} {C M R : Nat}
theorem xC_i (T : tp_p C M R x_isInterfaceClass x_ancestorsOf x_interfacesOf x_chainOf y_parent y_many x_homeOf x_ruleKind x_ruleClasses x_ruleNames x_formOf x_nameOf x_lengthOf y_isAbstract y_name y_length x_opOf x_classOf x_numberOf x_sourceMethod x_sourceLine x_callLine y_op y_first y_second) (hM : x_methodCount = nI M) (hL : (∀ m, m < M → x_lengthOf (30 + m) = nI (hq_t (x_lengthOf (30 + m))) ∧ hq_t (x_lengthOf (30 + m)) ≤ 24)) (hc : (∀ m k, m < M → k < hq_t (x_lengthOf (30 + m)) → (x_opOf (24 * (30 + m) + k) = 2 ∨ x_opOf (24 * (30 + m) + k) = 3) → ∃ c, c < C ∧ x_classOf (24 * (30 + m) + k) = nI c)) {post : SX → Prop} {J : Int32 → (Nat → Int32) → (Nat → Int32) → (Nat → Int32) → (Nat → Int32) → (Nat → Int32) → (Nat → Int32) → (Nat → Int32) → (Nat → Int32) → (Nat → Int32) → (Nat → Int32) → (Nat → Int32) → (Nat → Int32) → (Nat → Int32) → (Nat → Int32) → (Nat → Int32) → (Nat → Int32) → (Nat → Int32) → (Nat → Int32) → (Nat → Int32) → (Nat → Int32) → (Nat → Int32) → (Nat → Int32) → (Nat → Int32) → (Nat → Int32) → (Nat → Int32) → (Nat → Int32) → Prop} {m : Nat} (hm : m < M)
    (K : ∀ N, (∀ j, j < 24 * (30 + m) → True) → (∀ j, j < 720 → N j = x_numberOf j) → (∀ j, 24 * (30 + (m + 1)) ≤ j → N j = x_numberOf j) → (∀ m' k, m' < m + 1 → k < hq_t (x_lengthOf (30 + m')) → N (24 * (30 + m') + k) = fv_v (fo_v M x_ancestorsOf x_chainOf x_homeOf y_name) x_opOf x_classOf x_nameOf x_numberOf (24 * (30 + m') + k)) → J (nI (30 + (m + 1))) x_isInterfaceClass x_chainOf x_interfacesOf x_ancestorsOf x_homeOf x_formOf x_nameOf x_lengthOf x_opOf x_classOf N x_sourceMethod x_sourceLine x_callLine x_ruleKind x_ruleClasses x_ruleNames x_newNumber x_familyOf x_sightOf x_frameRow x_frameLine x_frameHeld x_outInts x_traceMethod x_traceLine) :
    ∀ q k f N, k + q = hq_t (x_lengthOf (30 + m)) → q < f → (∀ j, j < 720 → N j = x_numberOf j) → (∀ j, 24 * (30 + m) + k ≤ j → N j = x_numberOf j) →
      (∀ m' k', m' < m → k' < hq_t (x_lengthOf (30 + m')) → N (24 * (30 + m') + k') = fv_v (fo_v M x_ancestorsOf x_chainOf x_homeOf y_name) x_opOf x_classOf x_nameOf x_numberOf (24 * (30 + m') + k')) → (∀ k', k' < k → N (24 * (30 + m) + k') = fv_v (fo_v M x_ancestorsOf x_chainOf x_homeOf y_name) x_opOf x_classOf x_nameOf x_numberOf (24 * (30 + m) + k')) →
      wX_renameCalls_16 post J (nI (30 + m)) x_classCount x_methodCount x_ruleCount x_isBuilt x_faultPlace x_namedClasses x_madeClasses x_namedMethods x_liveMethods x_depth x_stepCount x_outCount x_traceCount f (nI k) x_isInterfaceClass x_chainOf x_interfacesOf x_ancestorsOf x_homeOf x_formOf x_nameOf x_lengthOf x_opOf x_classOf N x_sourceMethod x_sourceLine x_callLine x_ruleKind x_ruleClasses x_ruleNames x_newNumber x_familyOf x_sightOf x_frameRow x_frameLine x_frameHeld x_outInts x_traceMethod x_traceLine := by
  have h30 := T.2.2.1.1
  have h10 := T.1.1
  obtain ⟨l1, l24⟩ := hL m hm
  intro q
  induction q with
  | zero =>
    intro k f N e hf a1 a2 a3 a4
    obtain ⟨f, rfl⟩ : ∃ q, f = q + 1 := ⟨f - 1, by omega⟩
    rw [wX_renameCalls_16]
    refine ⟨vp_in_nI (by omega) (by decide), ?_⟩
    rw [nI_c (show 30 + m < 10000 by omega), l1]
    refine br_t (nI_le (by omega) (by omega)) (nm_r (nI_1 (30 + m)) (K N (fun _ _ => trivial) a1 (fun j hj => a2 j (by omega)) (fun m' k' hm' hk' => ?_)))
    rcases Nat.lt_or_ge m' m with w | w
    · exact a3 m' k' w hk'
    · have : m' = m := by omega
      subst this; exact a4 k' (by omega)
  | succ q ih =>
    intro k f N e hf a1 a2 a3 a4
    obtain ⟨f, rfl⟩ : ∃ q, f = q + 1 := ⟨f - 1, by omega⟩
    have hk : k < hq_t (x_lengthOf (30 + m)) := by omega
    have i1 : vp_in (nI (24 * (30 + m) + k)) 1440 := vp_in_nI (by omega) (by decide)
    have T' : tp_p C M R x_isInterfaceClass x_ancestorsOf x_interfacesOf x_chainOf y_parent y_many x_homeOf x_ruleKind x_ruleClasses x_ruleNames x_formOf x_nameOf x_lengthOf y_isAbstract y_name y_length x_opOf x_classOf N x_sourceMethod x_sourceLine x_callLine y_op y_first y_second :=
      tp_fr T (fun _ _ => rfl) (fun _ _ => rfl) (fun _ _ => rfl) (fun _ _ => rfl) (fun _ _ => rfl) a1 (fun _ _ => rfl) (fun _ _ => rfl) (fun _ _ => rfl)
    have ne : N (24 * (30 + m) + k) = x_numberOf (24 * (30 + m) + k) := a2 _ (by omega)
    have call : (x_opOf (24 * (30 + m) + k) = 2 ∨ x_opOf (24 * (30 + m) + k) = 3) → wX_renameCalls_53 post J (wX_renameCalls_16 post J (nI (30 + m)) x_classCount x_methodCount x_ruleCount x_isBuilt x_faultPlace x_namedClasses x_madeClasses x_namedMethods x_liveMethods x_depth x_stepCount x_outCount x_traceCount f) (nI (30 + m)) (nI k) (nI (24 * (30 + m) + k)) x_classCount x_methodCount x_ruleCount x_isBuilt x_faultPlace x_namedClasses x_madeClasses x_namedMethods x_liveMethods x_depth x_stepCount x_outCount x_traceCount x_isInterfaceClass x_chainOf x_interfacesOf x_ancestorsOf x_homeOf x_formOf x_nameOf x_lengthOf x_opOf x_classOf N x_sourceMethod x_sourceLine x_callLine x_ruleKind x_ruleClasses x_ruleNames x_newNumber x_familyOf x_sightOf x_frameRow x_frameLine x_frameHeld x_outInts x_traceMethod x_traceLine := fun o23 => by
      obtain ⟨c, cC, ec⟩ := hc m k hm hk o23
      have go : ∀ v, v = fv_v (fo_v M x_ancestorsOf x_chainOf x_homeOf y_name) x_opOf x_classOf x_nameOf x_numberOf (24 * (30 + m) + k) → wX_renameCalls_16 post J (nI (30 + m)) x_classCount x_methodCount x_ruleCount x_isBuilt x_faultPlace x_namedClasses x_madeClasses x_namedMethods x_liveMethods x_depth x_stepCount x_outCount x_traceCount f (nI (k + 1)) x_isInterfaceClass x_chainOf x_interfacesOf x_ancestorsOf x_homeOf x_formOf x_nameOf x_lengthOf x_opOf x_classOf (upd N (24 * (30 + m) + k) v) x_sourceMethod x_sourceLine x_callLine x_ruleKind x_ruleClasses x_ruleNames x_newNumber x_familyOf x_sightOf x_frameRow x_frameLine x_frameHeld x_outInts x_traceMethod x_traceLine := fun v hv =>
        ih (k + 1) f _ (by omega) (by omega) (fun j hj => by rw [pk_un (by omega)]; exact a1 j hj) (fun j hj => by rw [pk_un (by omega)]; exact a2 j (by omega)) (fun m' k' hm' hk' => by
          have := (hL m' (by omega)).2
          rw [pk_un (by omega)]; exact a3 m' k' hm' hk') (fun k' hk' => by
          by_cases w : k' = k
          · subst w; rw [pk_us]; exact hv
          · rw [pk_un (by omega)]; exact a4 k' (by omega))
      have fe : fv_v (fo_v M x_ancestorsOf x_chainOf x_homeOf y_name) x_opOf x_classOf x_nameOf x_numberOf (24 * (30 + m) + k) = (match fo_v M x_ancestorsOf x_chainOf x_homeOf y_name c (x_numberOf (24 * (30 + m) + k)) with
          | some g => x_nameOf (30 + g)
          | none => -1) := by
        unfold fv_v
        rw [if_pos o23, ec, hq_e (by omega)]
      unfold wX_renameCalls_53
      rw [nI_c (show 24 * (30 + m) + k < 10000 by omega), ec, ne]
      refine ⟨i1, i1, xo_v T' hM cC ?_⟩
      cases ef : fo_v M x_ancestorsOf x_chainOf x_homeOf y_name c (x_numberOf (24 * (30 + m) + k)) with
      | none =>
        rw [ef] at fe
        exact br_t rfl ⟨i1, nm_e (nm_r (nI_1 k) (go _ fe.symm))⟩
      | some g =>
        rw [ef] at fe
        have gM := (fd_s T.1 cC ef).1
        refine br_f (oI_n (by omega)) ?_
        rw [oI_s, nI_b30, nI_c (show 30 + g < 10000 by omega)]
        exact ⟨vp_in_nI (by omega) (by decide), i1, nm_e (nm_r (nI_1 k) (go _ fe.symm))⟩
    rw [wX_renameCalls_16]
    refine ⟨vp_in_nI (by omega) (by decide), ?_⟩
    rw [nI_c (show 30 + m < 10000 by omega), l1]
    refine br_f (nI_ge (by omega) (by omega)) (nm_r (nI_a24 (30 + m) k) ⟨i1, ?_⟩)
    rw [nI_c (show 24 * (30 + m) + k < 10000 by omega)]
    refine br_c (fun o2 => call (Or.inl o2)) (fun o2 => ⟨i1, br_c (fun o3 => call (Or.inr o3)) (fun o3 => nm_r (nI_1 k) (ih (k + 1) f N (by omega) (by omega) a1 (fun j hj => a2 j (by omega)) a3 (fun k' hk' => ?_)))⟩)
    by_cases w : k' = k
    · subst w
      rw [ne]
      unfold fv_v
      rw [if_neg (fun z => z.elim o2 o3)]
    · exact a4 k' (by omega)
theorem xC_v (T : tp_p C M R x_isInterfaceClass x_ancestorsOf x_interfacesOf x_chainOf y_parent y_many x_homeOf x_ruleKind x_ruleClasses x_ruleNames x_formOf x_nameOf x_lengthOf y_isAbstract y_name y_length x_opOf x_classOf x_numberOf x_sourceMethod x_sourceLine x_callLine y_op y_first y_second) (hM : x_methodCount = nI M) (hL : (∀ m, m < M → x_lengthOf (30 + m) = nI (hq_t (x_lengthOf (30 + m))) ∧ hq_t (x_lengthOf (30 + m)) ≤ 24)) (hc : (∀ m k, m < M → k < hq_t (x_lengthOf (30 + m)) → (x_opOf (24 * (30 + m) + k) = 2 ∨ x_opOf (24 * (30 + m) + k) = 3) → ∃ c, c < C ∧ x_classOf (24 * (30 + m) + k) = nI c)) {post : SX → Prop}
    (K : ∀ N, (∀ j, j < 720 → N j = x_numberOf j) → (∀ m k, m < M → k < hq_t (x_lengthOf (30 + m)) → N (24 * (30 + m) + k) = fv_v (fo_v M x_ancestorsOf x_chainOf x_homeOf y_name) x_opOf x_classOf x_nameOf x_numberOf (24 * (30 + m) + k)) → post (x_classCount, x_methodCount, x_ruleCount, x_isBuilt, x_faultPlace, x_namedClasses, x_madeClasses, x_namedMethods, x_liveMethods, x_depth, x_stepCount, x_outCount, x_traceCount, x_isInterfaceClass, x_chainOf, x_interfacesOf, x_ancestorsOf, x_homeOf, x_formOf, x_nameOf, x_lengthOf, x_opOf, x_classOf, N, x_sourceMethod, x_sourceLine, x_callLine, x_ruleKind, x_ruleClasses, x_ruleNames, x_newNumber, x_familyOf, x_sightOf, x_frameRow, x_frameLine, x_frameHeld, x_outInts, x_traceMethod, x_traceLine)) : wpX_renameCalls post (x_classCount, x_methodCount, x_ruleCount, x_isBuilt, x_faultPlace, x_namedClasses, x_madeClasses, x_namedMethods, x_liveMethods, x_depth, x_stepCount, x_outCount, x_traceCount, x_isInterfaceClass, x_chainOf, x_interfacesOf, x_ancestorsOf, x_homeOf, x_formOf, x_nameOf, x_lengthOf, x_opOf, x_classOf, x_numberOf, x_sourceMethod, x_sourceLine, x_callLine, x_ruleKind, x_ruleClasses, x_ruleNames, x_newNumber, x_familyOf, x_sightOf, x_frameRow, x_frameLine, x_frameHeld, x_outInts, x_traceMethod, x_traceLine) := by
  have h30 := T.2.2.1.1
  have lo : ∀ q m f N, m + q = M → q < f → (∀ j, j < 720 → N j = x_numberOf j) → (∀ j, 24 * (30 + m) ≤ j → N j = x_numberOf j) →
      (∀ m' k', m' < m → k' < hq_t (x_lengthOf (30 + m')) → N (24 * (30 + m') + k') = fv_v (fo_v M x_ancestorsOf x_chainOf x_homeOf y_name) x_opOf x_classOf x_nameOf x_numberOf (24 * (30 + m') + k')) → wX_renameCalls_3 post x_classCount x_methodCount x_ruleCount x_isBuilt x_faultPlace x_namedClasses x_madeClasses x_namedMethods x_liveMethods x_depth x_stepCount x_outCount x_traceCount f (nI (30 + m)) x_isInterfaceClass x_chainOf x_interfacesOf x_ancestorsOf x_homeOf x_formOf x_nameOf x_lengthOf x_opOf x_classOf N x_sourceMethod x_sourceLine x_callLine x_ruleKind x_ruleClasses x_ruleNames x_newNumber x_familyOf x_sightOf x_frameRow x_frameLine x_frameHeld x_outInts x_traceMethod x_traceLine := by
    intro q
    induction q with
    | zero =>
      intro m f N e hf a1 a2 a3
      obtain ⟨f, rfl⟩ : ∃ q, f = q + 1 := ⟨f - 1, by omega⟩
      have e : m = M := by omega
      subst e
      rw [wX_renameCalls_3]
      exact br_t (by rw [hM, nI_b30]; exact nI_le (by omega) (by omega)) (K N a1 a3)
    | succ q ih =>
      intro m f N e hf a1 a2 a3
      obtain ⟨f, rfl⟩ : ∃ q, f = q + 1 := ⟨f - 1, by omega⟩
      rw [wX_renameCalls_3]
      refine br_f (by rw [hM, nI_b30]; exact nI_ge (by omega) (by omega)) ⟨hq_t (x_lengthOf (30 + m)) + 1, ?_⟩
      exact xC_i T hM hL hc (by omega) (fun N' _ b1 b2 b3 => ih (m + 1) f N' (by omega) (by omega) b1 b2 b3) (hq_t (x_lengthOf (30 + m))) 0 _ N (by omega) (by omega) a1 (fun j hj => a2 j (by omega)) a3 (fun k' hk' => by omega)
  unfold wpX_renameCalls
  exact ⟨M + 1, lo M 0 (M + 1) _ (by omega) (by omega) (fun _ _ => rfl) (fun _ _ => rfl) (fun m' k' hm' => by omega)⟩
end
end
section
/-! ===== X's build ===== -/
def rn_v (F : Nat → Int32 → Option Nat) (yop yfi yse xname xnu : Nat → Int32) (m x : Nat) : Int32 :=
  if yop (6 * m + x) = 2 ∨ yop (6 * m + x) = 3 then (match F (hq_t (yfi (6 * m + x))) (yse (6 * m + x)) with
    | some g => xname (30 + g)
    | none => -1) else xnu (24 * m + x)
theorem cl_cg {C M R : Nat} {anc hom nam rk rc rn : Nat → Int32} {fil : Nat → Prop} {E E' : Nat → (Nat → Nat → Prop) → Prop} (he : ∀ m S, m < M → (E m S ↔ E' m S)) {Z : Nat → Nat → Prop} (h : cl_ok C M R anc hom nam rk rc rn fil E Z) : cl_ok C M R anc hom nam rk rc rn fil E' Z :=
  ⟨h.1, h.2.1, h.2.2.1, fun m hm z => (he m Z hm).mp (h.2.2.2 m hm z)⟩
theorem mi_cg {C M R : Nat} {anc hom nam rk rc rn : Nat → Int32} {fil : Nat → Prop} {E E' : Nat → (Nat → Nat → Prop) → Prop} (he : ∀ m S, m < M → (E m S ↔ E' m S)) {a b c d : Int32} (h : mi_ok C M R anc hom nam rk rc rn fil E a b c d) : mi_ok C M R anc hom nam rk rc rn fil E' a b c d :=
  ⟨fun S hS => h.1 S (cl_cg (fun m S hm => (he m S hm).symm) hS), h.2⟩
/-- what lies in the new program of X -/
def xb_p (C M R : Nat) (anc chn hom rc rn yname ylen yop yfi yse inl : Nat → Int32) (a c d kept : Int32) (F nm L O P N S U A nu : Nat → Int32) : Prop :=
  (∀ m, m < M → F (30 + m) = if bt d m = true then 2 else if bt c m = true then 1 else 0) ∧
  (∀ m, m < M → L (30 + m) = if bt d m = true then nI (po_n inl ylen m (hq_t (ylen m))) else 0) ∧
  (∀ m, m < M → bt d m = true → ∀ x, x < hq_t (ylen m) → lc_p inl ylen O P N S U A (rn_v (fo_v M anc chn hom yname) yop yfi yse nm N) m x) ∧
  (∀ m, m < M → nm (30 + m) = na_it C M R anc hom yname rc rn a c M (kn_f C M anc hom yname a c m)) ∧
  (∀ k, k < C → nu k = nu_v kept a k) ∧ ke_p R rc a kept
section
variable {x_classCount x_methodCount x_ruleCount x_isBuilt x_faultPlace x_namedClasses x_madeClasses x_namedMethods x_liveMethods x_depth x_stepCount x_outCount x_traceCount : Int32} {x_isInterfaceClass x_chainOf x_interfacesOf x_ancestorsOf x_homeOf x_formOf x_nameOf x_lengthOf x_opOf x_classOf x_numberOf x_sourceMethod x_sourceLine x_callLine x_ruleKind x_ruleClasses x_ruleNames x_newNumber x_familyOf x_sightOf x_frameRow x_frameLine x_frameHeld x_outInts x_traceMethod x_traceLine : Nat → Int32} {y_parent y_many y_isAbstract y_name y_length y_op y_first y_second : Nat → Int32} {C M R : Nat}
/-- a cell of the new program: class and op -/
theorem ly_c {L O P N S U A : Nat → Int32} {inl : Nat → Int32} {nv : Nat → Nat → Int32} (T : tp_p C M R x_isInterfaceClass x_ancestorsOf x_interfacesOf x_chainOf y_parent y_many x_homeOf x_ruleKind x_ruleClasses x_ruleNames x_formOf x_nameOf L y_isAbstract y_name y_length O P N S U A y_op y_first y_second) (NF : ff_v C M x_isInterfaceClass x_ancestorsOf x_chainOf x_homeOf y_isAbstract y_name y_length y_op y_first y_second = none) (hi : in_ok M inl y_length) (hop : ∀ m x, m < M → x < hq_t (y_length m) → ¬ inl (6 * m + x) < 0 → ∃ t, t < M ∧ inl (6 * m + x) = nI t ∧ ∀ i, i < hq_t (y_length t) → y_op (6 * t + i) = 0 ∨ y_op (6 * t + i) = 5)
    {m : Nat} (hm : m < M) (hc : ∀ x, x < hq_t (y_length m) → lc_p inl y_length O P N S U A nv m x) {k : Nat} (hk : k < po_n inl y_length m (hq_t (y_length m))) :
    (P (24 * (30 + m) + k) = -1 ∨ ∃ q, q < C ∧ P (24 * (30 + m) + k) = nI q) ∧ ((O (24 * (30 + m) + k) = 2 ∨ O (24 * (30 + m) + k) = 3) → ∃ q, q < C ∧ P (24 * (30 + m) + k) = nI q) := by
  have h30 := T.2.2.1.1
  have old : ∀ m x, m < M → x < hq_t (y_length m) → (P (24 * m + x) = -1 ∨ ∃ q, q < C ∧ P (24 * m + x) = nI q) ∧ ((O (24 * m + x) = 2 ∨ O (24 * m + x) = 3) → ∃ q, q < C ∧ P (24 * m + x) = nI q) := fun m x hm hx => by
    obtain ⟨o, o6, ey, ex, g1, g2, g3⟩ := xc_c T NF hm hx
    by_cases oc : 1 ≤ o ∧ o ≤ 4
    · obtain ⟨q, qC, _, e⟩ := g1 oc
      exact ⟨Or.inr ⟨q, qC, e⟩, fun _ => ⟨q, qC, e⟩⟩
    · refine ⟨Or.inl (g2 oc), fun z => ?_⟩
      rw [ex] at z
      rcases z with z | z
      · have := (nI_eq (a := o) (b := 2) (by omega) (by omega)).mp z; omega
      · have := (nI_eq (a := o) (b := 3) (by omega) (by omega)).mp z; omega
  obtain ⟨x, i, hx, hx2, rfl⟩ := ps_at hk
  obtain ⟨c1, c2, _⟩ := hc x hx
  rcases Nat.eq_zero_or_pos i with z | z
  · subst z
    by_cases n : inl (6 * m + x) < 0
    · obtain ⟨q1, q2, _⟩ := c1 n
      have o := old m x hm hx
      rw [← q1, ← q2] at o
      exact o
    · obtain ⟨q1, q2, _⟩ := c2 n
      have q1' : O (24 * (30 + m) + (ps_n (gy_n inl y_length m) x + 0)) = 6 := q1
      have q2' : P (24 * (30 + m) + (ps_n (gy_n inl y_length m) x + 0)) = (if O (24 * m + x) = 3 then -1 else P (24 * m + x)) := q2
      rw [q1', q2']
      refine ⟨?_, fun y => y.elim (fun w => absurd w (by decide)) (fun w => absurd w (by decide))⟩
      by_cases e : O (24 * m + x) = 3
      · rw [if_pos e]; exact Or.inl rfl
      · rw [if_neg e]; exact (old m x hm hx).1
  · by_cases n : inl (6 * m + x) < 0
    · rw [gy_1 n] at hx2; omega
    · rw [gy_t hx n] at hx2
      obtain ⟨_, _, _, q4⟩ := c2 n
      obtain ⟨j, rfl⟩ : ∃ j, i = 1 + j := ⟨i - 1, by omega⟩
      obtain ⟨r1, r2, _⟩ := q4 j (by omega)
      have e : 24 * (30 + m) + (ps_n (gy_n inl y_length m) x + (1 + j)) = 24 * (30 + m) + po_n inl y_length m x + 1 + j := by unfold po_n; omega
      rw [e, r1, r2]
      obtain ⟨t, tM, et, eo⟩ := hop m x hm hx n
      have ht : hq_t (inl (6 * m + x)) = t := by rw [et]; exact hq_e (by omega)
      rw [ht] at hx2 ⊢
      obtain ⟨o, o6, e1, e2, _⟩ := T.2.2.2.2.2.1 t j tM (by omega)
      refine ⟨Or.inl rfl, fun y => ?_⟩
      have eo := eo j (by omega)
      rw [e2] at eo
      rw [e1] at y
      rcases eo with w | w
      · rw [w] at y; exact absurd y (by decide)
      · rw [w] at y; exact absurd y (by decide)
end
end
section
/-! ===== X's build as a whole ===== -/
section
variable {x_classCount x_methodCount x_ruleCount x_isBuilt x_faultPlace x_namedClasses x_madeClasses x_namedMethods x_liveMethods x_depth x_stepCount x_outCount x_traceCount : Int32} {x_isInterfaceClass x_chainOf x_interfacesOf x_ancestorsOf x_homeOf x_formOf x_nameOf x_lengthOf x_opOf x_classOf x_numberOf x_sourceMethod x_sourceLine x_callLine x_ruleKind x_ruleClasses x_ruleNames x_newNumber x_familyOf x_sightOf x_frameRow x_frameLine x_frameHeld x_outInts x_traceMethod x_traceLine : Nat → Int32} {y_parent y_many y_isAbstract y_name y_length y_op y_first y_second : Nat → Int32} {C M R : Nat}
theorem lc_rn {L O P N S U A : Nat → Int32} {inl nm N' : Nat → Int32} {nv : Nat → Nat → Int32} (T : tp_p C M R x_isInterfaceClass x_ancestorsOf x_interfacesOf x_chainOf y_parent y_many x_homeOf x_ruleKind x_ruleClasses x_ruleNames x_formOf x_nameOf L y_isAbstract y_name y_length O P N S U A y_op y_first y_second) (NF : ff_v C M x_isInterfaceClass x_ancestorsOf x_chainOf x_homeOf y_isAbstract y_name y_length y_op y_first y_second = none) (hi : in_ok M inl y_length)
    (hop : ∀ m x, m < M → x < hq_t (y_length m) → ¬ inl (6 * m + x) < 0 → ∃ t, t < M ∧ inl (6 * m + x) = nI t ∧ ∀ i, i < hq_t (y_length t) → y_op (6 * t + i) = 0 ∨ y_op (6 * t + i) = 5)
    (hnv : ∀ m x, m < M → x < hq_t (y_length m) → N (24 * m + x) = nv m x) (f0 : ∀ j, j < 720 → N' j = N j) {m : Nat} (hm : m < M)
    (f1 : ∀ k, k < po_n inl y_length m (hq_t (y_length m)) → N' (24 * (30 + m) + k) = fv_v (fo_v M x_ancestorsOf x_chainOf x_homeOf y_name) O P nm N (24 * (30 + m) + k)) {x : Nat} (hx : x < hq_t (y_length m)) (hc : lc_p inl y_length O P N S U A nv m x) :
    lc_p inl y_length O P N' S U A (rn_v (fo_v M x_ancestorsOf x_chainOf x_homeOf y_name) y_op y_first y_second nm N') m x := by
  have h30 := T.2.2.1.1
  have h10 := T.1.1
  have l6 := (tp_len T hm).2.2
  have g1 : 1 ≤ gy_n inl y_length m x := by
    unfold gy_n; split <;> omega
  have mo : po_n inl y_length m (x + 1) ≤ po_n inl y_length m (hq_t (y_length m)) := ps_mo (gr := gy_n inl y_length m) (by omega)
  rw [po_s] at mo
  obtain ⟨c1, c2, c3⟩ := hc
  refine ⟨fun n => ?_, fun n => ?_, c3⟩
  · obtain ⟨q1, q2, q3⟩ := c1 n
    refine ⟨q1, q2, ?_⟩
    rw [f1 _ (by omega)]
    obtain ⟨o, o6, ey, ex, k1, k2, k3⟩ := xc_c T NF hm hx
    unfold fv_v rn_v
    rw [q1, q2, q3, ex, ey]
    by_cases o23 : o = 2 ∨ o = 3
    · have oo : nI o = 2 ∨ nI o = 3 := by
        rcases o23 with z | z
        · subst z; exact Or.inl rfl
        · subst z; exact Or.inr rfl
      obtain ⟨q, qC, p1, p2⟩ := k1 (by omega)
      obtain ⟨en, _⟩ := k3 o23
      rw [if_pos oo, if_pos oo, p1, p2, ← hnv m x hm hx, en]
      cases fo_v M x_ancestorsOf x_chainOf x_homeOf y_name (hq_t (nI q)) (y_second (6 * m + x)) <;> rfl
    · have oo : ¬ (nI o = 2 ∨ nI o = 3) := by
        rintro (z | z)
        · exact o23 (Or.inl ((nI_eq (a := o) (b := 2) (by omega) (by omega)).mp z))
        · exact o23 (Or.inr ((nI_eq (a := o) (b := 3) (by omega) (by omega)).mp z))
      rw [if_neg oo, if_neg oo, f0 _ (by omega), hnv m x hm hx]
  · obtain ⟨q1, q2, q3, q4⟩ := c2 n
    obtain ⟨t, tM, et, eo⟩ := hop m x hm hx n
    have ht : hq_t (inl (6 * m + x)) = t := by rw [et]; exact hq_e (by omega)
    have l6t := (tp_len T tM).2.2
    refine ⟨q1, q2, ?_, fun i hk => ?_⟩
    · rw [f1 _ (by omega)]
      unfold fv_v
      rw [q1, if_neg (by decide), q3]
    · obtain ⟨r1, r2, r3, r4⟩ := q4 i hk
      refine ⟨r1, r2, ?_, r4⟩
      rw [gy_t hx n] at mo
      rw [ht] at hk mo r1 r3 ⊢
      have e : 24 * (30 + m) + po_n inl y_length m x + 1 + i = 24 * (30 + m) + (po_n inl y_length m x + 1 + i) := by omega
      rw [e] at r1 r3 ⊢
      rw [f1 _ (by omega), f0 _ (by omega)]
      obtain ⟨o, o6, e1, e2, _⟩ := T.2.2.2.2.2.1 t i tM hk
      have eo := eo i hk
      rw [e2] at eo
      unfold fv_v
      rw [r1, r3, e1]
      rcases eo with w | w
      · rw [w, if_neg (by decide)]
      · rw [w, if_neg (by decide)]
theorem xB_v (T : tp_p C M R x_isInterfaceClass x_ancestorsOf x_interfacesOf x_chainOf y_parent y_many x_homeOf x_ruleKind x_ruleClasses x_ruleNames x_formOf x_nameOf x_lengthOf y_isAbstract y_name y_length x_opOf x_classOf x_numberOf x_sourceMethod x_sourceLine x_callLine y_op y_first y_second) (hC : x_classCount = nI C) (hM : x_methodCount = nI M) (hR : x_ruleCount = nI R) {post : Int32 → SX → Prop}
    (Kf : ∀ k, ff_v C M x_isInterfaceClass x_ancestorsOf x_chainOf x_homeOf y_isAbstract y_name y_length y_op y_first y_second = some k → post (fl_v C x_isInterfaceClass y_isAbstract (fo_v M x_ancestorsOf x_chainOf x_homeOf y_name) (y_op k) (y_first k) (y_second k)) (x_classCount, x_methodCount, x_ruleCount, 0, nI (8 * (k / 6) + k % 6), x_namedClasses, x_madeClasses, x_namedMethods, x_liveMethods, x_depth, x_stepCount, x_outCount, x_traceCount, x_isInterfaceClass, x_chainOf, x_interfacesOf, x_ancestorsOf, x_homeOf, x_formOf, x_nameOf, x_lengthOf, x_opOf, x_classOf, x_numberOf, x_sourceMethod, x_sourceLine, x_callLine, x_ruleKind, x_ruleClasses, x_ruleNames, x_newNumber, x_familyOf, x_sightOf, x_frameRow, x_frameLine, x_frameHeld, x_outInts, x_traceMethod, x_traceLine))
    (K : ff_v C M x_isInterfaceClass x_ancestorsOf x_chainOf x_homeOf y_isAbstract y_name y_length y_op y_first y_second = none → ∀ a1 b1 c1 d1, mi_ok C M R x_ancestorsOf x_homeOf y_name x_ruleKind x_ruleClasses x_ruleNames (fun m => y_isAbstract m = 0) (ey_p C (fun m => y_isAbstract m = 0) x_ancestorsOf (fo_v M x_ancestorsOf x_chainOf x_homeOf y_name) y_length y_op y_first y_second (fun _ => -1)) a1 b1 c1 d1 → cl_ok C M R x_ancestorsOf x_homeOf y_name x_ruleKind x_ruleClasses x_ruleNames (fun m => y_isAbstract m = 0) (ey_p C (fun m => y_isAbstract m = 0) x_ancestorsOf (fo_v M x_ancestorsOf x_chainOf x_homeOf y_name) y_length y_op y_first y_second (fun _ => -1)) (mk_s a1 b1 c1 d1) → ∀ inl, (∀ m k, m < M → k < 6 → il_p C M x_ancestorsOf x_chainOf x_homeOf y_isAbstract y_name y_length y_op y_first y_second b1 d1 m k (inl (6 * m + k))) → ∀ a b c d, mi_ok C M R x_ancestorsOf x_homeOf y_name x_ruleKind x_ruleClasses x_ruleNames (fun m => y_isAbstract m = 0) (ey_p C (fun m => y_isAbstract m = 0) x_ancestorsOf (fo_v M x_ancestorsOf x_chainOf x_homeOf y_name) y_length y_op y_first y_second inl) a b c d → cl_ok C M R x_ancestorsOf x_homeOf y_name x_ruleKind x_ruleClasses x_ruleNames (fun m => y_isAbstract m = 0) (ey_p C (fun m => y_isAbstract m = 0) x_ancestorsOf (fo_v M x_ancestorsOf x_chainOf x_homeOf y_name) y_length y_op y_first y_second inl) (mk_s a b c d) →
      ∀ kept F nm L O P N S U A nu fa sg,
        tp_p C M R x_isInterfaceClass x_ancestorsOf x_interfacesOf x_chainOf y_parent y_many x_homeOf x_ruleKind x_ruleClasses x_ruleNames F nm L y_isAbstract y_name y_length O P N S U A y_op y_first y_second →
        xb_p C M R x_ancestorsOf x_chainOf x_homeOf x_ruleClasses x_ruleNames y_name y_length y_op y_first y_second inl a c d kept F nm L O P N S U A nu → post 0 (x_classCount, x_methodCount, x_ruleCount, 1, -1, a, b, c, d, x_depth, x_stepCount, x_outCount, x_traceCount, x_isInterfaceClass, x_chainOf, x_interfacesOf, x_ancestorsOf, x_homeOf, F, nm, L, O, P, N, S, U, A, x_ruleKind, x_ruleClasses, x_ruleNames, nu, fa, sg, x_frameRow, x_frameLine, x_frameHeld, x_outInts, x_traceMethod, x_traceLine)) :
    wpX_build post (x_classCount, x_methodCount, x_ruleCount, x_isBuilt, x_faultPlace, x_namedClasses, x_madeClasses, x_namedMethods, x_liveMethods, x_depth, x_stepCount, x_outCount, x_traceCount, x_isInterfaceClass, x_chainOf, x_interfacesOf, x_ancestorsOf, x_homeOf, x_formOf, x_nameOf, x_lengthOf, x_opOf, x_classOf, x_numberOf, x_sourceMethod, x_sourceLine, x_callLine, x_ruleKind, x_ruleClasses, x_ruleNames, x_newNumber, x_familyOf, x_sightOf, x_frameRow, x_frameLine, x_frameHeld, x_outInts, x_traceMethod, x_traceLine) := by
  have h30 := T.2.2.1.1
  have h10 := T.1.1
  have h4 := T.2.2.2.2.2.2.1
  unfold wpX_build
  dsimp only
  refine xp_v T hC hM ?_
  cases NF : ff_v C M x_isInterfaceClass x_ancestorsOf x_chainOf x_homeOf y_isAbstract y_name y_length y_op y_first y_second with
  | some k =>
    obtain ⟨kM, kb, _⟩ := sc_fe NF
    obtain ⟨m, i, i6, rfl⟩ : ∃ m i, i < 6 ∧ k = 6 * m + i := ⟨k / 6, k % 6, by omega, by omega⟩
    have e1 : (6 * m + i) / 6 = m := by omega
    have e2 : (6 * m + i) % 6 = i := by omega
    have kb := (fb_i i6).mp kb
    have fr : ff_r (some (6 * m + i)) = nI (8 * m + i) := by
      show nI (8 * ((6 * m + i) / 6) + (6 * m + i) % 6) = _
      rw [e1, e2]
    rw [fr]
    refine br_f (oI_n (by omega)) ⟨by decide, by decide, ?_⟩
    have d8 : nI (8 * m + i) / 8 = nI m := by
      have := pk_div (a := 8 * m + i) (d := 8) (by omega) (by decide) (by decide)
      rw [show (8 * m + i) / 8 = m from by omega] at this
      exact this
    have r8 : nI (8 * m + i) - nI (8 * m + i) / 8 * 8 = nI i := by
      have := pk_rem (a := 8 * m + i) (d := 8) (by omega) (by decide) (by decide)
      rw [show (8 * m + i) % 8 = i from by omega] at this
      exact this
    rw [r8, d8, nI_a24]
    refine xw_v T hC hM (by omega) kb.1 ?_
    have := Kf (6 * m + i) NF
    rw [e1, e2] at this
    exact this
  | none =>
    refine br_t rfl ?_
    refine xk_v (w := 0) T hC hM hR (by decide) (fun m k hm hk => ?_) (fun m hm => ?_) (fun a1 b1 c1 d1 m1 m2 => ?_)
    · rw [Nat.mul_zero, Nat.zero_add] at hk ⊢
      obtain ⟨l1, l2, _⟩ := tp_len T hm
      rw [l1, ← l2] at hk
      obtain ⟨o, o6, ey, ex, g1, g2, g3⟩ := xc_c T NF hm hk
      by_cases oc : 1 ≤ o ∧ o ≤ 4
      · obtain ⟨q, qC, _, e⟩ := g1 oc
        exact Or.inr ⟨q, qC, e⟩
      · exact Or.inl (g2 oc)
    · rw [Nat.mul_zero, Nat.zero_add]
      obtain ⟨l1, l2, l6⟩ := tp_len T hm
      rw [l1, hq_e (by omega)]
      exact ⟨by omega, rfl⟩
    · have eq0 : ∀ m Z, m < M → (ew_p C (fun m => y_isAbstract m = 0) x_ancestorsOf (fo_v M x_ancestorsOf x_chainOf x_homeOf y_name) x_lengthOf x_opOf x_classOf x_numberOf 0 m Z ↔ ey_p C (fun m => y_isAbstract m = 0) x_ancestorsOf (fo_v M x_ancestorsOf x_chainOf x_homeOf y_name) y_length y_op y_first y_second (fun _ => -1) m Z) := fun m Z hm => ee_0 T hm (fun _ => -1) (fun _ _ => by decide) Z
      have K := K NF a1 b1 c1 d1 (mi_cg eq0 m1) (cl_cg eq0 m2) (il_f C M x_ancestorsOf x_chainOf x_homeOf y_isAbstract y_name y_length y_op y_first y_second b1 d1)
      have hI : ∀ m k, m < M → k < 6 → il_p C M x_ancestorsOf x_chainOf x_homeOf y_isAbstract y_name y_length y_op y_first y_second b1 d1 m k (il_f C M x_ancestorsOf x_chainOf x_homeOf y_isAbstract y_name y_length y_op y_first y_second b1 d1 (6 * m + k)) := fun m k hm hk => by
        unfold il_f
        rw [show (6 * m + k) / 6 = m from by omega, show (6 * m + k) % 6 = k from by omega]
        exact il_e m k
      have K := K hI
      generalize il_f C M x_ancestorsOf x_chainOf x_homeOf y_isAbstract y_name y_length y_op y_first y_second b1 d1 = inl at K hI
      have hi : in_ok M inl y_length := in_il (fun m hm => (tp_len T hm).2.2) hI
      have hop : ∀ m x, m < M → x < hq_t (y_length m) → ¬ inl (6 * m + x) < 0 → ∃ t, t < M ∧ inl (6 * m + x) = nI t ∧ ∀ i, i < hq_t (y_length t) → y_op (6 * t + i) = 0 ∨ y_op (6 * t + i) = 5 := fun m x hm hx n => by
        have := (tp_len T hm).2.2
        rcases hI m x hm (by omega) with ⟨e, _⟩ | ⟨t, e, it⟩
        · rw [e] at n; exact absurd (by decide) n
        · exact ⟨t, it.2.2.1, e, it.2.2.2.2.2.2.1⟩
      have hop2 : ∀ m x, m < M → x < hq_t (y_length m) → ¬ inl (6 * m + x) < 0 → y_op (6 * m + x) = 2 ∨ y_op (6 * m + x) = 3 := fun m x hm hx n => by
        have := (tp_len T hm).2.2
        rcases hI m x hm (by omega) with ⟨e, _⟩ | ⟨t, e, it⟩
        · rw [e] at n; exact absurd (by decide) n
        · rcases it.2.2.2.2.2.2.2 with z | z
          · exact Or.inr z.1
          · exact Or.inl z.1
      dsimp only
      refine xg_v (inl := inl) (nv := fun m x => x_numberOf (24 * m + x)) T NF hC hM hI (fun _ _ _ _ => rfl) (fun L O P N S U A pv => ?_)
      obtain ⟨T1, pv2, _, pv4⟩ := pv
      dsimp only
      have l24 : ∀ m, m < M → po_n inl y_length m (hq_t (y_length m)) ≤ 24 := fun m hm => po_24 hi h30 hm (tp_len T hm).2.2
      refine xk_v (w := 1) T1 hC hM hR (by decide) (fun m k hm hk => ?_) (fun m hm => ?_) (fun a b c d n1 n2 => ?_)
      · rw [Nat.mul_one] at hk ⊢
        rw [(pv2 m hm).1, hq_e (by have := l24 m hm; omega)] at hk
        exact (ly_c T1 NF hi hop hm (pv2 m hm).2 hk).1
      · rw [Nat.mul_one, (pv2 m hm).1, hq_e (by have := l24 m hm; omega)]
        exact ⟨l24 m hm, rfl⟩
      have eq1 : ∀ m Z, m < M → (ew_p C (fun m => y_isAbstract m = 0) x_ancestorsOf (fo_v M x_ancestorsOf x_chainOf x_homeOf y_name) L O P N 1 m Z ↔ ey_p C (fun m => y_isAbstract m = 0) x_ancestorsOf (fo_v M x_ancestorsOf x_chainOf x_homeOf y_name) y_length y_op y_first y_second inl m Z) := fun m Z hm => ee_1 T1 hi hm (pv2 m hm).1 (pv2 m hm).2 (fun x hx => pv4 m x hm hx) (fun x hx n => by
        obtain ⟨o, _, e1, e2, _⟩ := T1.2.2.2.2.2.1 m x hm hx
        have := hop2 m x hm hx n
        rw [e2] at this
        rw [e1]; exact this) Z
      have K := K a b c d (mi_cg eq1 n1) (cl_cg eq1 n2)
      dsimp only
      refine xD_v h30 hM (fun F L' f1 f2 f3 f4 => ?_)
      have T2 : tp_p C M R x_isInterfaceClass x_ancestorsOf x_interfacesOf x_chainOf y_parent y_many x_homeOf x_ruleKind x_ruleClasses x_ruleNames F x_nameOf L' y_isAbstract y_name y_length O P N S U A y_op y_first y_second :=
        tp_fr T1 f1 (fun _ _ => rfl) f2 (fun _ _ => rfl) (fun _ _ => rfl) (fun _ _ => rfl) (fun _ _ => rfl) (fun _ _ => rfl) (fun _ _ => rfl)
      have f4' : ∀ m, m < M → L' (30 + m) = if bt d m = true then nI (po_n inl y_length m (hq_t (y_length m))) else 0 := fun m hm => by rw [f4 m hm, (pv2 m hm).1]
      dsimp only
      refine xN_v h10 h4 hC hR n1.2.2.1 (fun kept nu k1 k2 => ?_)
      dsimp only
      refine xJ_v (y_name := y_name) h10 T.2.2.1 hC hM (fun m hm => ?_) (fun fa hfa => ?_)
      · obtain ⟨⟨n, n10, e1, e2⟩, _⟩ := T.2.2.2.1 m hm
        rw [e1, e2]
      dsimp only
      refine xA_v T2 hC hM hR hfa (fun nm sg h1 h2 => ?_)
      have T3 : tp_p C M R x_isInterfaceClass x_ancestorsOf x_interfacesOf x_chainOf y_parent y_many x_homeOf x_ruleKind x_ruleClasses x_ruleNames F nm L' y_isAbstract y_name y_length O P N S U A y_op y_first y_second :=
        tp_fr T2 (fun _ _ => rfl) h1 (fun _ _ => rfl) (fun _ _ => rfl) (fun _ _ => rfl) (fun _ _ => rfl) (fun _ _ => rfl) (fun _ _ => rfl) (fun _ _ => rfl)
      dsimp only
      have hz : hq_t (0 : Int32) = 0 := hq_e (n := 0) (by decide)
      have lv : ∀ m, m < M → L' (30 + m) = nI (hq_t (L' (30 + m))) ∧ hq_t (L' (30 + m)) ≤ 24 := fun m hm => by
        rw [f4' m hm]
        have := l24 m hm
        by_cases q : bt d m = true
        · rw [if_pos q, hq_e (by omega)]; exact ⟨rfl, this⟩
        · rw [if_neg q, hz]; exact ⟨rfl, by omega⟩
      have inlv : ∀ m k, m < M → k < hq_t (L' (30 + m)) → k < po_n inl y_length m (hq_t (y_length m)) := fun m k hm hk => by
        rw [f4' m hm] at hk
        have := l24 m hm
        by_cases q : bt d m = true
        · rw [if_pos q, hq_e (by omega)] at hk; exact hk
        · rw [if_neg q, hz] at hk; omega
      refine xC_v T3 hM lv (fun m k hm hk => (ly_c T3 NF hi hop hm (pv2 m hm).2 (inlv m k hm hk)).2) (fun N' g1 g2 => ?_)
      dsimp only
      refine K kept F nm L' O P N' S U A nu fa sg (tp_fr T3 (fun _ _ => rfl) (fun _ _ => rfl) (fun _ _ => rfl) (fun _ _ => rfl) (fun _ _ => rfl) g1 (fun _ _ => rfl) (fun _ _ => rfl) (fun _ _ => rfl)) ⟨f3, f4', fun m hm q x hx => ?_, h2, k2, k1⟩
      refine lc_rn T3 NF hi hop pv4 g1 hm (fun k hk => g2 m k hm ?_) hx ((pv2 m hm).2 x hx)
      rw [f4' m hm, if_pos q, hq_e (by have := l24 m hm; omega)]
      exact hk
end
end
section
/-! ===== Y's build ===== -/
theorem ey_cg {C : Nat} {fil : Nat → Prop} {anc : Nat → Int32} {F : Nat → Int32 → Option Nat} {ylen yop yfi yse i i' : Nat → Int32} {m : Nat} (h : ∀ k, k < hq_t (ylen m) → i (6 * m + k) = i' (6 * m + k)) (S : Nat → Nat → Prop) :
    ey_p C fil anc F ylen yop yfi yse i m S ↔ ey_p C fil anc F ylen yop yfi yse i' m S := by
  unfold ey_p
  constructor
  · intro z k hk
    have := z k hk
    rw [h k hk] at this
    exact this
  · intro z k hk
    have := z k hk
    rw [← h k hk] at this
    exact this
section
variable {y_classes y_methods y_rules y_place y_named y_made y_namedMethods y_live y_built y_depth y_steps y_outs y_ending : Int32} {y_isInterface y_isAbstract y_parent y_ancestors y_own y_many y_home y_name y_length y_op y_first y_second y_ruleKind y_ruleClasses y_ruleNames y_inlined y_number y_newName y_family y_vMethod y_vLine y_vHeld y_put : Nat → Int32} {chn xform xname xlen xop xcl xnu xsm xsl xca : Nat → Int32} {C M R : Nat}
theorem yB_v (T : tp_p C M R y_isInterface y_ancestors y_own chn y_parent y_many y_home y_ruleKind y_ruleClasses y_ruleNames xform xname xlen y_isAbstract y_name y_length xop xcl xnu xsm xsl xca y_op y_first y_second) (hC : y_classes = nI C) (hM : y_methods = nI M) (hR : y_rules = nI R) {post : Int32 → SY → Prop}
    (Kf : ∀ k, ff_v C M y_isInterface y_ancestors chn y_home y_isAbstract y_name y_length y_op y_first y_second = some k → post (fl_v C y_isInterface y_isAbstract (fo_v M y_ancestors chn y_home y_name) (y_op k) (y_first k) (y_second k)) (y_classes, y_methods, y_rules, nI (8 * (k / 6) + k % 6), y_named, y_made, y_namedMethods, y_live, 0, y_depth, y_steps, y_outs, y_ending, y_isInterface, y_isAbstract, y_parent, y_ancestors, y_own, y_many, y_home, y_name, y_length, y_op, y_first, y_second, y_ruleKind, y_ruleClasses, y_ruleNames, y_inlined, y_number, y_newName, y_family, y_vMethod, y_vLine, y_vHeld, y_put))
    {a1 b1 c1 d1 a b c d : Int32} {inl : Nat → Int32}
    (K : ff_v C M y_isInterface y_ancestors chn y_home y_isAbstract y_name y_length y_op y_first y_second = none → mi_ok C M R y_ancestors y_home y_name y_ruleKind y_ruleClasses y_ruleNames (fun m => y_isAbstract m = 0) (ey_p C (fun m => y_isAbstract m = 0) y_ancestors (fo_v M y_ancestors chn y_home y_name) y_length y_op y_first y_second (fun _ => -1)) a1 b1 c1 d1 ∧ cl_ok C M R y_ancestors y_home y_name y_ruleKind y_ruleClasses y_ruleNames (fun m => y_isAbstract m = 0) (ey_p C (fun m => y_isAbstract m = 0) y_ancestors (fo_v M y_ancestors chn y_home y_name) y_length y_op y_first y_second (fun _ => -1)) (mk_s a1 b1 c1 d1) ∧ (∀ m k, m < M → k < 6 → il_p C M y_ancestors chn y_home y_isAbstract y_name y_length y_op y_first y_second b1 d1 m k (inl (6 * m + k))) ∧ mi_ok C M R y_ancestors y_home y_name y_ruleKind y_ruleClasses y_ruleNames (fun m => y_isAbstract m = 0) (ey_p C (fun m => y_isAbstract m = 0) y_ancestors (fo_v M y_ancestors chn y_home y_name) y_length y_op y_first y_second inl) a b c d ∧ cl_ok C M R y_ancestors y_home y_name y_ruleKind y_ruleClasses y_ruleNames (fun m => y_isAbstract m = 0) (ey_p C (fun m => y_isAbstract m = 0) y_ancestors (fo_v M y_ancestors chn y_home y_name) y_length y_op y_first y_second inl) (mk_s a b c d) ∧
      ∀ inlY nu fa nn kept, (∀ m k, m < M → k < 6 → inlY (6 * m + k) = inl (6 * m + k)) → ke_p R y_ruleClasses a kept → (∀ k, k < C → nu k = nu_v kept a k) → (∀ m, m < M → fa m = nI (kn_f C M y_ancestors y_home y_name a c m)) →
        (∀ m, m < M → nn m = na_it C M R y_ancestors y_home y_name y_ruleClasses y_ruleNames a c M m) →
        post 0 (y_classes, y_methods, y_rules, -1, a, b, c, d, 1, y_depth, y_steps, y_outs, y_ending, y_isInterface, y_isAbstract, y_parent, y_ancestors, y_own, y_many, y_home, y_name, y_length, y_op, y_first, y_second, y_ruleKind, y_ruleClasses, y_ruleNames, inlY, nu, nn, fa, y_vMethod, y_vLine, y_vHeld, y_put)) :
    wpY_build post (y_classes, y_methods, y_rules, y_place, y_named, y_made, y_namedMethods, y_live, y_built, y_depth, y_steps, y_outs, y_ending, y_isInterface, y_isAbstract, y_parent, y_ancestors, y_own, y_many, y_home, y_name, y_length, y_op, y_first, y_second, y_ruleKind, y_ruleClasses, y_ruleNames, y_inlined, y_number, y_newName, y_family, y_vMethod, y_vLine, y_vHeld, y_put) := by
  have h30 := T.2.2.1.1
  have h10 := T.1.1
  have h4 := T.2.2.2.2.2.2.1
  unfold wpY_build
  dsimp only
  refine yx_v T hC hM (fun NF => ?_) (fun k NF => ?_)
  · obtain ⟨g1, g2, g3, g4, g5, KK⟩ := K NF
    dsimp only
    refine br_t rfl ⟨181, ?_⟩
    have lo : ∀ (q i f : Nat) (il : Nat → Int32), i + q = 180 → q < f → (∀ j, j < i → il j = -1) → wY_build_23 post y_classes y_methods y_rules (-1) y_named y_made y_namedMethods y_live 0 y_depth y_steps y_outs y_ending f (nI i) y_isInterface y_isAbstract y_parent y_ancestors y_own y_many y_home y_name y_length y_op y_first y_second y_ruleKind y_ruleClasses y_ruleNames il y_number y_newName y_family y_vMethod y_vLine y_vHeld y_put := by
      intro q
      induction q with
      | zero =>
        intro i f il e hf z
        obtain ⟨f, rfl⟩ : ∃ q, f = q + 1 := ⟨f - 1, by omega⟩
        have e : i = 180 := by omega
        subst e
        rw [wY_build_23]
        refine br_t (nI_le (a := 180) (by omega) (by decide)) (y0_v T NF hC hM hR (fun a' b' c' d' p1 p2 => ?_))
        have eq0 : ∀ m S, m < M → (ey_p C (fun m => y_isAbstract m = 0) y_ancestors (fo_v M y_ancestors chn y_home y_name) y_length y_op y_first y_second il m S ↔ ey_p C (fun m => y_isAbstract m = 0) y_ancestors (fo_v M y_ancestors chn y_home y_name) y_length y_op y_first y_second (fun _ => -1) m S) := fun m S hm => ey_cg (fun k hk => z _ (by have := (ty_len T hm).2; omega)) S
        obtain ⟨s1, s2, s3, s4⟩ := mk_un (fun m S hm => (eq0 m S hm).symm) g2 g1.1 p2 p1
        subst s1 s2 s3 s4
        dsimp only
        refine ⟨6 * M + 1, ?_⟩
        refine yi_l T NF hC hM (fun il' hil => ?_) (6 * M) 0 (6 * M + 1) il (by omega) (by omega) ⟨fun m k _ _ h => by omega, fun j _ hj => z j hj⟩
        have same : ∀ m k, m < M → k < 6 → il' (6 * m + k) = inl (6 * m + k) := fun m k hm hk => il_u (hil m k hm hk) (g3 m k hm hk)
        rw [wY_build_49]
        refine br_t (by rw [hM, nI_m6]; exact nI_le (by omega) (by omega)) (y0_v T NF hC hM hR (fun a'' b'' c'' d'' q1 q2 => ?_))
        have eq1 : ∀ m S, m < M → (ey_p C (fun m => y_isAbstract m = 0) y_ancestors (fo_v M y_ancestors chn y_home y_name) y_length y_op y_first y_second il' m S ↔ ey_p C (fun m => y_isAbstract m = 0) y_ancestors (fo_v M y_ancestors chn y_home y_name) y_length y_op y_first y_second inl m S) := fun m S hm => ey_cg (fun k hk => same m k hm (by have := (ty_len T hm).2; omega)) S
        obtain ⟨s1, s2, s3, s4⟩ := mk_un (fun m S hm => (eq1 m S hm).symm) g5 g4.1 q2 q1
        subst s1 s2 s3 s4
        dsimp only
        refine yN_v h10 h4 hC hR T.2.2.2.2.2.2.2 g4.2.2.1 (fun kept nu k1 k2 => ?_)
        dsimp only
        refine yJ_v h10 T.2.2.1 g4.2.1 hC hM (fun fa hfa => ?_)
        dsimp only
        refine yA_v T g4.2.1 hC hM hR hfa (fun nn hnn => ?_)
        dsimp only
        exact KK il' nu fa nn kept same k1 k2 hfa hnn
      | succ q ih =>
        intro i f il e hf z
        obtain ⟨f, rfl⟩ : ∃ q, f = q + 1 := ⟨f - 1, by omega⟩
        rw [wY_build_23]
        refine br_f (nI_ge (b := 180) (by omega) (by decide)) ⟨vp_in_nI (by omega) (by decide), ?_⟩
        rw [nI_c (show i < 10000 by omega)]
        refine nm_e (nm_r (nI_1 i) (ih (i + 1) f _ (by omega) (by omega) (fun j hj => ?_)))
        by_cases c : j = i
        · subst c; exact pk_us
        · rw [pk_un c]; exact z j (by omega)
    exact lo 180 0 181 _ (by omega) (by omega) (fun j hj => by omega)
  · dsimp only
    refine br_f ?_ (Kf k NF)
    obtain ⟨kM, kb, _⟩ := sc_fe NF
    obtain ⟨m, i, i6, rfl⟩ : ∃ m i, i < 6 ∧ k = 6 * m + i := ⟨k / 6, k % 6, by omega, by omega⟩
    exact ((fb_y i6).mp kb).2
end
end
section
/-! ===== telling the program (pure) ===== -/
theorem up_up (f : Nat → Int32) (k : Nat) (x y : Int32) : upd (upd f k x) k y = upd f k y := by
  funext j
  unfold upd
  by_cases c : j = k
  · rw [if_pos c, if_pos c]
  · rw [if_neg c, if_neg c, if_neg c]
/-- interfaces have no parent -/
def ip_p (C : Nat) (ifc par : Nat → Int32) : Prop := ∀ c, c < C → ¬ ifc c = 0 → par c = -1
theorem hi_1 {C : Nat} {ifc anc chn par : Nat → Int32} (h : hi_ok C ifc anc chn par) (hC : C < 10) (b : Int32) :
    hi_ok (C + 1) (upd ifc C b) (upd anc C ((1 : Int32) <<< (nI C &&& 31))) (upd chn C ((1 : Int32) <<< (nI C &&& 31))) (upd par C (-1)) := by
  have b1 : ∀ i, bt ((1 : Int32) <<< (nI C &&& 31)) i = true ↔ i = C := fun i => by rw [bq_1 (by omega), decide_eq_true_eq]
  refine ⟨by omega, fun c hc => ?_⟩
  by_cases e : c = C
  · subst e
    rw [pk_us, pk_us, pk_us]
    refine ⟨(b1 c).mpr rfl, fun i z => by have := (b1 i).mp z; omega, fun i j z w => ?_, fun i z => z, fun i z w => absurd z w, Or.inl ⟨rfl, b1⟩⟩
    have := (b1 i).mp z
    subst this
    rw [pk_us] at w; exact w
  · obtain ⟨q1, q2, q3, q4, q5, q6⟩ := h.2 c (by omega)
    rw [pk_un e, pk_un e, pk_un e]
    refine ⟨q1, q2, fun i j z w => ?_, q4, fun i z w => ?_, ?_⟩
    · have := q2 i z
      rw [pk_un (by omega)] at w
      exact q3 i j z w
    · have := q2 i z
      rw [pk_un (by omega)]
      exact q5 i z w
    · rcases q6 with z | ⟨p, hp, z1, z2, z3⟩
      · exact Or.inl z
      · refine Or.inr ⟨p, hp, z1, by rw [pk_un (by omega)]; exact z2, ?_⟩
        rw [pk_un (by omega)]; exact z3
theorem hi_2 {C p : Nat} {ifc anc chn par : Nat → Int32} (h : hi_ok C ifc anc chn par) (hC : C < 10) (hp : p < C) (hi : ifc p = 0) (b : Int32) :
    hi_ok (C + 1) (upd ifc C b) (upd anc C (((1 : Int32) <<< (nI C &&& 31)) ||| anc p)) (upd chn C (((1 : Int32) <<< (nI C &&& 31)) ||| chn p)) (upd par C (nI p)) := by
  have b1 : ∀ (s : Int32) i, bt (((1 : Int32) <<< (nI C &&& 31)) ||| s) i = true ↔ i = C ∨ bt s i = true := fun s i => by rw [b_or, bq_1 (by omega), Bool.or_eq_true, decide_eq_true_eq]
  obtain ⟨p1, p2, p3, p4, p5, _⟩ := h.2 p hp
  refine ⟨by omega, fun c hc => ?_⟩
  by_cases e : c = C
  · subst e
    rw [pk_us, pk_us, pk_us]
    refine ⟨(b1 _ c).mpr (Or.inl rfl), fun i z => ?_, fun i j z w => ?_, fun i z => ?_, fun i z w => ?_, Or.inr ⟨p, hp, rfl, by rw [pk_un (by omega)]; exact hi, fun i => ?_⟩⟩
    · rcases (b1 _ i).mp z with y | y
      · omega
      · have := p2 i y; omega
    · rcases (b1 _ i).mp z with y | y
      · subst y; rw [pk_us] at w; exact w
      · have := p2 i y
        rw [pk_un (by omega)] at w
        exact (b1 _ j).mpr (Or.inr (p3 i j y w))
    · rcases (b1 _ i).mp z with y | y
      · exact (b1 _ i).mpr (Or.inl y)
      · exact (b1 _ i).mpr (Or.inr (p4 i y))
    · rcases (b1 _ i).mp z with y | y
      · exact absurd ((b1 _ i).mpr (Or.inl y)) w
      · have := p2 i y
        rw [pk_un (by omega)]
        exact p5 i y (fun x => w ((b1 _ i).mpr (Or.inr x)))
    · rw [pk_un (by omega)]; exact b1 _ i
  · obtain ⟨q1, q2, q3, q4, q5, q6⟩ := h.2 c (by omega)
    rw [pk_un e, pk_un e, pk_un e]
    refine ⟨q1, q2, fun i j z w => ?_, q4, fun i z w => ?_, ?_⟩
    · have := q2 i z
      rw [pk_un (by omega)] at w
      exact q3 i j z w
    · have := q2 i z
      rw [pk_un (by omega)]
      exact q5 i z w
    · rcases q6 with z | ⟨p, hp, z1, z2, z3⟩
      · exact Or.inl z
      · refine Or.inr ⟨p, hp, z1, by rw [pk_un (by omega)]; exact z2, ?_⟩
        rw [pk_un (by omega)]; exact z3
theorem hi_3 {C i : Nat} {ifc anc chn par : Nat → Int32} (h : hi_ok (C + 1) ifc anc chn par) (hp : ip_p (C + 1) ifc par) (hi : i < C) (hf : ¬ ifc i = 0) : hi_ok (C + 1) ifc (upd anc C (anc C ||| anc i)) chn par := by
  have b1 : ∀ j, bt (anc C ||| anc i) j = true ↔ bt (anc C) j = true ∨ bt (anc i) j = true := fun j => by rw [b_or, Bool.or_eq_true]
  obtain ⟨p1, p2, p3, p4, p5, p6⟩ := h.2 i (by omega)
  refine ⟨h.1, fun c hc => ?_⟩
  obtain ⟨q1, q2, q3, q4, q5, q6⟩ := h.2 c hc
  by_cases e : c = C
  · subst e
    rw [pk_us]
    refine ⟨(b1 c).mpr (Or.inl q1), fun j z => ?_, fun j l z w => ?_, fun j z => (b1 j).mpr (Or.inl (q4 j z)), fun j z w => ?_, q6⟩
    · rcases (b1 j).mp z with y | y
      · exact q2 j y
      · have := p2 j y; omega
    · by_cases ec : j = c
      · subst ec; rw [pk_us] at w; exact w
      · rw [pk_un ec] at w
        rcases (b1 j).mp z with y | y
        · exact (b1 l).mpr (Or.inl (q3 j l y w))
        · exact (b1 l).mpr (Or.inr (p3 j l y w))
    · rcases (b1 j).mp z with y | y
      · exact q5 j y w
      · by_cases ei : bt (chn i) j = true
        · rcases p6 with ⟨_, r⟩ | ⟨p, hpi, r, _⟩
          · have := (r j).mp ei
            subst this; exact hf
          · rw [hp i (by omega) hf] at r
            exact absurd r.symm (oI_n (by have := h.1; omega))
        · exact p5 j y ei
  · rw [pk_un e]
    refine ⟨q1, q2, fun j l z w => ?_, q4, q5, q6⟩
    have := q2 j z
    rw [pk_un (by omega)] at w
    exact q3 j l z w
theorem ow_two : ∀ i, i < 10 → ((1 : Int32) <<< (nI i &&& 31)) &&& (((1 : Int32) <<< (nI i &&& 31)) - 1) = 0 := by decide +kernel
theorem ow_thr : ∀ i, i < 10 → ∀ j, j < 10 → i ≠ j → ¬ (((1 : Int32) <<< (nI i &&& 31)) ||| ((1 : Int32) <<< (nI j &&& 31))) &&& ((((1 : Int32) <<< (nI i &&& 31)) ||| ((1 : Int32) <<< (nI j &&& 31))) - 1) = 0 := by decide +kernel
/-- two or not; a further one -/
theorem ow_e {own many : Int32} (h : ow_p own many) : (own &&& (own - 1)) = 0 ↔ ¬ many = 2 := by
  rcases h with ⟨e1, e2⟩ | ⟨i, hi, e1, e2⟩ | ⟨i, j, hi, hj, ne, e1, e2⟩
  · rw [e1, e2]; decide
  · rw [e1, e2]; exact ⟨fun _ => by decide, fun _ => ow_two i hi⟩
  · rw [e1, e2]; exact ⟨fun z => absurd z (ow_thr i hi j hj ne), fun z => absurd rfl z⟩
theorem ow_n {own many : Int32} (h : ow_p own many) (n2 : ¬ many = 2) {i : Nat} (hi : i < 10) (nb : ¬ bt own i = true) : ow_p (own ||| ((1 : Int32) <<< (nI i &&& 31))) (many + 1) := by
  rcases h with ⟨e1, e2⟩ | ⟨j, hj, e1, e2⟩ | ⟨j, k, hj, hk, ne, e1, e2⟩
  · refine Or.inr (Or.inl ⟨i, hi, by rw [e1]; rfl, ?_⟩)
    rw [e2]
    apply b_ext
    intro k _
    rw [b_or, b_0, Bool.false_or]
  · refine Or.inr (Or.inr ⟨j, i, hj, hi, fun z => nb ?_, by rw [e1]; rfl, by rw [e2]⟩)
    subst z
    rw [e2, bq_1 (by omega)]
    exact decide_eq_true rfl
  · exact absurd e1 n2
end
section

/-! ===== the relation ===== -/
def bl_p (C M R : Nat) (ifc anc chn hom rc rn yabs yname ylen yop yfi yse : Nat → Int32) (a b c d : Int32) (F nm L O P N S U A nu yin ynum yfam ynn : Nat → Int32) : Prop :=
  ∃ b1 d1 kept inl, ff_v C M ifc anc chn hom yabs yname ylen yop yfi yse = none ∧
    (∀ m k, m < M → k < 6 → il_p C M anc chn hom yabs yname ylen yop yfi yse b1 d1 m k (inl (6 * m + k))) ∧ (∀ m k, m < M → k < 6 → yin (6 * m + k) = inl (6 * m + k)) ∧
    (ss_le d c ∧ (∀ i, bt a i = true → i < C) ∧ (∀ i, bt b i = true → i < C) ∧ (∀ i, bt c i = true → i < M) ∧ (∀ i j, bt a i = true → bt (anc i) j = true → bt a j = true) ∧ (∀ m, bt c m = true → bt a (hq_t (hom m)) = true) ∧ (∀ m, bt d m = true → yabs m = 0)) ∧
    xb_p C M R anc chn hom rc rn yname ylen yop yfi yse inl a c d kept F nm L O P N S U A nu ∧
    (∀ k, k < C → ynum k = nu_v kept a k) ∧ (∀ m, m < M → yfam m = nI (kn_f C M anc hom yname a c m)) ∧ (∀ m, m < M → ynn m = na_it C M R anc hom yname rc rn a c M m)
def rl_p (x_classCount x_methodCount x_ruleCount x_isBuilt x_faultPlace x_namedClasses x_madeClasses x_namedMethods x_liveMethods x_depth x_stepCount x_outCount x_traceCount : Int32) (x_isInterfaceClass x_chainOf x_interfacesOf x_ancestorsOf x_homeOf x_formOf x_nameOf x_lengthOf x_opOf x_classOf x_numberOf x_sourceMethod x_sourceLine x_callLine x_ruleKind x_ruleClasses x_ruleNames x_newNumber x_familyOf x_sightOf x_frameRow x_frameLine x_frameHeld x_outInts x_traceMethod x_traceLine : Nat → Int32) (y_classes y_methods y_rules y_place y_named y_made y_namedMethods y_live y_built y_depth y_steps y_outs y_ending : Int32) (y_isInterface y_isAbstract y_parent y_ancestors y_own y_many y_home y_name y_length y_op y_first y_second y_ruleKind y_ruleClasses y_ruleNames y_inlined y_number y_newName y_family y_vMethod y_vLine y_vHeld y_put : Nat → Int32) : Prop :=
  ∃ C M R t o : Nat, x_classCount = nI C ∧ y_classes = nI C ∧ x_methodCount = nI M ∧ y_methods = nI M ∧ x_ruleCount = nI R ∧ y_rules = nI R ∧ x_outCount = nI o ∧ y_outs = nI o ∧ x_traceCount = nI t ∧ y_depth = nI t ∧
    x_faultPlace = y_place ∧ x_isBuilt = y_built ∧ x_stepCount = y_steps ∧ x_isInterfaceClass = y_isInterface ∧ x_ancestorsOf = y_ancestors ∧ x_interfacesOf = y_own ∧ x_homeOf = y_home ∧
    x_ruleKind = y_ruleKind ∧ x_ruleClasses = y_ruleClasses ∧ x_ruleNames = y_ruleNames ∧ x_outInts = y_put ∧
    o ≤ 200 ∧ tr_p t x_traceMethod x_traceLine y_vMethod y_vLine ∧ ip_p C x_isInterfaceClass y_parent ∧ tp_p C M R x_isInterfaceClass x_ancestorsOf x_interfacesOf x_chainOf y_parent y_many x_homeOf x_ruleKind x_ruleClasses x_ruleNames x_formOf x_nameOf x_lengthOf y_isAbstract y_name y_length x_opOf x_classOf x_numberOf x_sourceMethod x_sourceLine x_callLine y_op y_first y_second ∧ (¬ x_isBuilt = 0 → (x_namedClasses = y_named ∧ x_madeClasses = y_made ∧ x_namedMethods = y_namedMethods ∧ x_liveMethods = y_live) ∧ bl_p C M R x_isInterfaceClass x_ancestorsOf x_chainOf x_homeOf x_ruleClasses x_ruleNames y_isAbstract y_name y_length y_op y_first y_second x_namedClasses x_madeClasses x_namedMethods x_liveMethods x_formOf x_nameOf x_lengthOf x_opOf x_classOf x_numberOf x_sourceMethod x_sourceLine x_callLine x_newNumber y_inlined y_number y_family y_newName)
def i_Rel (k : Nat) (u : SX) (v : SY) : Prop := match u with
  | (x_classCount, x_methodCount, x_ruleCount, x_isBuilt, x_faultPlace, x_namedClasses, x_madeClasses, x_namedMethods, x_liveMethods, x_depth, x_stepCount, x_outCount, x_traceCount, x_isInterfaceClass, x_chainOf, x_interfacesOf, x_ancestorsOf, x_homeOf, x_formOf, x_nameOf, x_lengthOf, x_opOf, x_classOf, x_numberOf, x_sourceMethod, x_sourceLine, x_callLine, x_ruleKind, x_ruleClasses, x_ruleNames, x_newNumber, x_familyOf, x_sightOf, x_frameRow, x_frameLine, x_frameHeld, x_outInts, x_traceMethod, x_traceLine) => match v with
    | (y_classes, y_methods, y_rules, y_place, y_named, y_made, y_namedMethods, y_live, y_built, y_depth, y_steps, y_outs, y_ending, y_isInterface, y_isAbstract, y_parent, y_ancestors, y_own, y_many, y_home, y_name, y_length, y_op, y_first, y_second, y_ruleKind, y_ruleClasses, y_ruleNames, y_inlined, y_number, y_newName, y_family, y_vMethod, y_vLine, y_vHeld, y_put) => rl_p x_classCount x_methodCount x_ruleCount x_isBuilt x_faultPlace x_namedClasses x_madeClasses x_namedMethods x_liveMethods x_depth x_stepCount x_outCount x_traceCount x_isInterfaceClass x_chainOf x_interfacesOf x_ancestorsOf x_homeOf x_formOf x_nameOf x_lengthOf x_opOf x_classOf x_numberOf x_sourceMethod x_sourceLine x_callLine x_ruleKind x_ruleClasses x_ruleNames x_newNumber x_familyOf x_sightOf x_frameRow x_frameLine x_frameHeld x_outInts x_traceMethod x_traceLine y_classes y_methods y_rules y_place y_named y_made y_namedMethods y_live y_built y_depth y_steps y_outs y_ending y_isInterface y_isAbstract y_parent y_ancestors y_own y_many y_home y_name y_length y_op y_first y_second y_ruleKind y_ruleClasses y_ruleNames y_inlined y_number y_newName y_family y_vMethod y_vLine y_vHeld y_put
theorem i_up {k : Nat} {u : SX} {v : SY} (h : i_Rel k u v) : i_Rel (k + 5) u v := h
section
variable {x_classCount x_methodCount x_ruleCount x_isBuilt x_faultPlace x_namedClasses x_madeClasses x_namedMethods x_liveMethods x_depth x_stepCount x_outCount x_traceCount : Int32} {x_isInterfaceClass x_chainOf x_interfacesOf x_ancestorsOf x_homeOf x_formOf x_nameOf x_lengthOf x_opOf x_classOf x_numberOf x_sourceMethod x_sourceLine x_callLine x_ruleKind x_ruleClasses x_ruleNames x_newNumber x_familyOf x_sightOf x_frameRow x_frameLine x_frameHeld x_outInts x_traceMethod x_traceLine : Nat → Int32} {y_classes y_methods y_rules y_place y_named y_made y_namedMethods y_live y_built y_depth y_steps y_outs y_ending : Int32} {y_isInterface y_isAbstract y_parent y_ancestors y_own y_many y_home y_name y_length y_op y_first y_second y_ruleKind y_ruleClasses y_ruleNames y_inlined y_number y_newName y_family y_vMethod y_vLine y_vHeld y_put : Nat → Int32} {C M R t o : Nat}
theorem rl_i (k : Nat) (ho : o ≤ 200) (ht : tr_p t x_traceMethod x_traceLine y_vMethod y_vLine) (hp : ip_p C x_isInterfaceClass y_parent) (T : tp_p C M R x_isInterfaceClass x_ancestorsOf x_interfacesOf x_chainOf y_parent y_many x_homeOf x_ruleKind x_ruleClasses x_ruleNames x_formOf x_nameOf x_lengthOf y_isAbstract y_name y_length x_opOf x_classOf x_numberOf x_sourceMethod x_sourceLine x_callLine y_op y_first y_second) (hb : ¬ x_isBuilt = 0 → (x_namedClasses = y_named ∧ x_madeClasses = y_made ∧ x_namedMethods = y_namedMethods ∧ x_liveMethods = y_live) ∧ bl_p C M R x_isInterfaceClass x_ancestorsOf x_chainOf x_homeOf x_ruleClasses x_ruleNames y_isAbstract y_name y_length y_op y_first y_second x_namedClasses x_madeClasses x_namedMethods x_liveMethods x_formOf x_nameOf x_lengthOf x_opOf x_classOf x_numberOf x_sourceMethod x_sourceLine x_callLine x_newNumber y_inlined y_number y_family y_newName) : i_Rel k (nI C, nI M, nI R, x_isBuilt, x_faultPlace, x_namedClasses, x_madeClasses, x_namedMethods, x_liveMethods, x_depth, x_stepCount, nI o, nI t, x_isInterfaceClass, x_chainOf, x_interfacesOf, x_ancestorsOf, x_homeOf, x_formOf, x_nameOf, x_lengthOf, x_opOf, x_classOf, x_numberOf, x_sourceMethod, x_sourceLine, x_callLine, x_ruleKind, x_ruleClasses, x_ruleNames, x_newNumber, x_familyOf, x_sightOf, x_frameRow, x_frameLine, x_frameHeld, x_outInts, x_traceMethod, x_traceLine) (nI C, nI M, nI R, x_faultPlace, y_named, y_made, y_namedMethods, y_live, x_isBuilt, nI t, x_stepCount, nI o, y_ending, x_isInterfaceClass, y_isAbstract, y_parent, x_ancestorsOf, x_interfacesOf, y_many, x_homeOf, y_name, y_length, y_op, y_first, y_second, x_ruleKind, x_ruleClasses, x_ruleNames, y_inlined, y_number, y_newName, y_family, y_vMethod, y_vLine, y_vHeld, x_outInts) :=
  (⟨C, M, R, t, o, rfl, rfl, rfl, rfl, rfl, rfl, rfl, rfl, rfl, rfl, rfl, rfl, rfl, rfl, rfl, rfl, rfl, rfl, rfl, rfl, rfl, ho, ht, hp, T, hb⟩ : rl_p (nI C) (nI M) (nI R) x_isBuilt x_faultPlace x_namedClasses x_madeClasses x_namedMethods x_liveMethods x_depth x_stepCount (nI o) (nI t) x_isInterfaceClass x_chainOf x_interfacesOf x_ancestorsOf x_homeOf x_formOf x_nameOf x_lengthOf x_opOf x_classOf x_numberOf x_sourceMethod x_sourceLine x_callLine x_ruleKind x_ruleClasses x_ruleNames x_newNumber x_familyOf x_sightOf x_frameRow x_frameLine x_frameHeld x_outInts x_traceMethod x_traceLine (nI C) (nI M) (nI R) x_faultPlace y_named y_made y_namedMethods y_live x_isBuilt (nI t) x_stepCount (nI o) y_ending x_isInterfaceClass y_isAbstract y_parent x_ancestorsOf x_interfacesOf y_many x_homeOf y_name y_length y_op y_first y_second x_ruleKind x_ruleClasses x_ruleNames y_inlined y_number y_newName y_family y_vMethod y_vLine y_vHeld x_outInts)
/-- nothing built -/
theorem rl_0 (k : Nat) (ho : o ≤ 200) (ht : tr_p t x_traceMethod x_traceLine y_vMethod y_vLine) (hp : ip_p C x_isInterfaceClass y_parent) (T : tp_p C M R x_isInterfaceClass x_ancestorsOf x_interfacesOf x_chainOf y_parent y_many x_homeOf x_ruleKind x_ruleClasses x_ruleNames x_formOf x_nameOf x_lengthOf y_isAbstract y_name y_length x_opOf x_classOf x_numberOf x_sourceMethod x_sourceLine x_callLine y_op y_first y_second) : i_Rel k (nI C, nI M, nI R, 0, x_faultPlace, x_namedClasses, x_madeClasses, x_namedMethods, x_liveMethods, x_depth, x_stepCount, nI o, nI t, x_isInterfaceClass, x_chainOf, x_interfacesOf, x_ancestorsOf, x_homeOf, x_formOf, x_nameOf, x_lengthOf, x_opOf, x_classOf, x_numberOf, x_sourceMethod, x_sourceLine, x_callLine, x_ruleKind, x_ruleClasses, x_ruleNames, x_newNumber, x_familyOf, x_sightOf, x_frameRow, x_frameLine, x_frameHeld, x_outInts, x_traceMethod, x_traceLine) (nI C, nI M, nI R, x_faultPlace, y_named, y_made, y_namedMethods, y_live, 0, nI t, x_stepCount, nI o, y_ending, x_isInterfaceClass, y_isAbstract, y_parent, x_ancestorsOf, x_interfacesOf, y_many, x_homeOf, y_name, y_length, y_op, y_first, y_second, x_ruleKind, x_ruleClasses, x_ruleNames, y_inlined, y_number, y_newName, y_family, y_vMethod, y_vLine, y_vHeld, x_outInts) :=
  rl_i (x_isBuilt := 0) k ho ht hp T (fun z => absurd rfl z)
theorem tp_0 {R : Nat} (h4 : R ≤ 0) : tp_p 0 0 R x_isInterfaceClass x_ancestorsOf x_interfacesOf x_chainOf y_parent y_many x_homeOf x_ruleKind x_ruleClasses x_ruleNames x_formOf x_nameOf x_lengthOf y_isAbstract y_name y_length x_opOf x_classOf x_numberOf x_sourceMethod x_sourceLine x_callLine y_op y_first y_second :=
  ⟨⟨by omega, fun c hc => by omega⟩, fun c hc => by omega, ⟨by omega, fun m hm => by omega, fun a b _ hb => by omega⟩, fun m hm => by omega, fun a b ha => by omega, fun m k hm => by omega, by omega, fun r hr => by omega⟩
end
theorem i_vc0 : wpX_init (fun u => wpY_init (fun v => i_Rel 0 u v)) := by
  unfold wpX_init wpY_init
  exact rl_0 (C := 0) (M := 0) (R := 0) (t := 0) (o := 0) 0 (by omega) ⟨by omega, fun k hk => by omega⟩ (fun c hc => by omega) (tp_0 (by omega))
theorem i_vc_clear {k : Nat} {u : SX} {v : SY} (I : i_Rel k u v) (hk : k + 5 ≤ 2560) : wpX_clear (fun r u' => wpY_clear (fun r' v' => r' = r ∧ i_Rel (k + 5) u' v') v) u := by
  obtain ⟨x_classCount, x_methodCount, x_ruleCount, x_isBuilt, x_faultPlace, x_namedClasses, x_madeClasses, x_namedMethods, x_liveMethods, x_depth, x_stepCount, x_outCount, x_traceCount, x_isInterfaceClass, x_chainOf, x_interfacesOf, x_ancestorsOf, x_homeOf, x_formOf, x_nameOf, x_lengthOf, x_opOf, x_classOf, x_numberOf, x_sourceMethod, x_sourceLine, x_callLine, x_ruleKind, x_ruleClasses, x_ruleNames, x_newNumber, x_familyOf, x_sightOf, x_frameRow, x_frameLine, x_frameHeld, x_outInts, x_traceMethod, x_traceLine⟩ := u; obtain ⟨y_classes, y_methods, y_rules, y_place, y_named, y_made, y_namedMethods, y_live, y_built, y_depth, y_steps, y_outs, y_ending, y_isInterface, y_isAbstract, y_parent, y_ancestors, y_own, y_many, y_home, y_name, y_length, y_op, y_first, y_second, y_ruleKind, y_ruleClasses, y_ruleNames, y_inlined, y_number, y_newName, y_family, y_vMethod, y_vLine, y_vHeld, y_put⟩ := v; have II := I; obtain ⟨C, M, R, t, o, rfl, rfl, rfl, rfl, rfl, rfl, rfl, rfl, rfl, rfl, rfl, rfl, rfl, rfl, rfl, rfl, rfl, rfl, rfl, rfl, rfl, ho, ht, hp, T, hb⟩ := (I : rl_p x_classCount x_methodCount x_ruleCount x_isBuilt x_faultPlace x_namedClasses x_madeClasses x_namedMethods x_liveMethods x_depth x_stepCount x_outCount x_traceCount x_isInterfaceClass x_chainOf x_interfacesOf x_ancestorsOf x_homeOf x_formOf x_nameOf x_lengthOf x_opOf x_classOf x_numberOf x_sourceMethod x_sourceLine x_callLine x_ruleKind x_ruleClasses x_ruleNames x_newNumber x_familyOf x_sightOf x_frameRow x_frameLine x_frameHeld x_outInts x_traceMethod x_traceLine y_classes y_methods y_rules y_place y_named y_made y_namedMethods y_live y_built y_depth y_steps y_outs y_ending y_isInterface y_isAbstract y_parent y_ancestors y_own y_many y_home y_name y_length y_op y_first y_second y_ruleKind y_ruleClasses y_ruleNames y_inlined y_number y_newName y_family y_vMethod y_vLine y_vHeld y_put)
  unfold wpX_clear wpY_clear
  exact ⟨rfl, rl_0 (C := 0) (M := 0) (R := 0) (k + 5) ho ht (fun c hc => by omega) (tp_0 (by omega))⟩
theorem ix_0 {v : Int32} {n : Nat} (hn : n < 2 ^ 31) (z : nI n ≤ v) : ¬ v < 0 := fun y => by
  rw [Int32.lt_iff_toInt_lt] at y
  rw [Int32.le_iff_toInt_le, nI_toInt hn] at z
  have : (0 : Int32).toInt = 0 := by decide
  omega
theorem ix_n {v : Int32} {n : Nat} (hn : n < 2 ^ 31) (z : v < 0) : ¬ nI n ≤ v := fun y => ix_0 hn y z
theorem ix_l {v : Int32} {n : Nat} (z : nI n ≤ v) : ¬ v < nI n := fun y => by
  rw [Int32.lt_iff_toInt_lt] at y
  rw [Int32.le_iff_toInt_le] at z
  omega
theorem yn_b {A B : Prop} {x : Int32} {n : Nat} (hn : n < 2 ^ 31) (t : ∀ j, j < n → x = nI j → B) (f : (x < 0 ∨ nI n ≤ x) → A) : wpY_in (fun r => (r = 0 → A) ∧ (¬ r = 0 → B)) x (nI n) := by
  unfold wpY_in
  rcases pk_ix x hn with z | z | ⟨j, hj, e⟩
  · exact br_t z (br_0 (f (Or.inl z)))
  · exact br_f (ix_0 hn z) (br_t z (br_0 (f (Or.inr z))))
  · rw [e]
    exact br_f (nI_pos (by omega)) (br_f (nI_ge hj hn) (br_1 (t j hj e)))
theorem i_vc_place {k : Nat} {u : SX} {v : SY} (I : i_Rel k u v) (hk : k + 5 ≤ 2560) : wpX_place (fun r => wpY_place (fun r' => r' = r ∧ i_Rel (k + 5) u v) v) u := by
  obtain ⟨x_classCount, x_methodCount, x_ruleCount, x_isBuilt, x_faultPlace, x_namedClasses, x_madeClasses, x_namedMethods, x_liveMethods, x_depth, x_stepCount, x_outCount, x_traceCount, x_isInterfaceClass, x_chainOf, x_interfacesOf, x_ancestorsOf, x_homeOf, x_formOf, x_nameOf, x_lengthOf, x_opOf, x_classOf, x_numberOf, x_sourceMethod, x_sourceLine, x_callLine, x_ruleKind, x_ruleClasses, x_ruleNames, x_newNumber, x_familyOf, x_sightOf, x_frameRow, x_frameLine, x_frameHeld, x_outInts, x_traceMethod, x_traceLine⟩ := u; obtain ⟨y_classes, y_methods, y_rules, y_place, y_named, y_made, y_namedMethods, y_live, y_built, y_depth, y_steps, y_outs, y_ending, y_isInterface, y_isAbstract, y_parent, y_ancestors, y_own, y_many, y_home, y_name, y_length, y_op, y_first, y_second, y_ruleKind, y_ruleClasses, y_ruleNames, y_inlined, y_number, y_newName, y_family, y_vMethod, y_vLine, y_vHeld, y_put⟩ := v; have II := I; obtain ⟨C, M, R, t, o, rfl, rfl, rfl, rfl, rfl, rfl, rfl, rfl, rfl, rfl, rfl, rfl, rfl, rfl, rfl, rfl, rfl, rfl, rfl, rfl, rfl, ho, ht, hp, T, hb⟩ := (I : rl_p x_classCount x_methodCount x_ruleCount x_isBuilt x_faultPlace x_namedClasses x_madeClasses x_namedMethods x_liveMethods x_depth x_stepCount x_outCount x_traceCount x_isInterfaceClass x_chainOf x_interfacesOf x_ancestorsOf x_homeOf x_formOf x_nameOf x_lengthOf x_opOf x_classOf x_numberOf x_sourceMethod x_sourceLine x_callLine x_ruleKind x_ruleClasses x_ruleNames x_newNumber x_familyOf x_sightOf x_frameRow x_frameLine x_frameHeld x_outInts x_traceMethod x_traceLine y_classes y_methods y_rules y_place y_named y_made y_namedMethods y_live y_built y_depth y_steps y_outs y_ending y_isInterface y_isAbstract y_parent y_ancestors y_own y_many y_home y_name y_length y_op y_first y_second y_ruleKind y_ruleClasses y_ruleNames y_inlined y_number y_newName y_family y_vMethod y_vLine y_vHeld y_put)
  unfold wpX_place wpY_place
  exact ⟨rfl, II⟩
theorem i_vc_out {k : Nat} {u : SX} {v : SY} (I : i_Rel k u v) (hk : k + 5 ≤ 2560) (v1 : Int32) : wpX_out (fun r => wpY_out (fun r' => r' = r ∧ i_Rel (k + 5) u v) v v1) u v1 := by
  obtain ⟨x_classCount, x_methodCount, x_ruleCount, x_isBuilt, x_faultPlace, x_namedClasses, x_madeClasses, x_namedMethods, x_liveMethods, x_depth, x_stepCount, x_outCount, x_traceCount, x_isInterfaceClass, x_chainOf, x_interfacesOf, x_ancestorsOf, x_homeOf, x_formOf, x_nameOf, x_lengthOf, x_opOf, x_classOf, x_numberOf, x_sourceMethod, x_sourceLine, x_callLine, x_ruleKind, x_ruleClasses, x_ruleNames, x_newNumber, x_familyOf, x_sightOf, x_frameRow, x_frameLine, x_frameHeld, x_outInts, x_traceMethod, x_traceLine⟩ := u; obtain ⟨y_classes, y_methods, y_rules, y_place, y_named, y_made, y_namedMethods, y_live, y_built, y_depth, y_steps, y_outs, y_ending, y_isInterface, y_isAbstract, y_parent, y_ancestors, y_own, y_many, y_home, y_name, y_length, y_op, y_first, y_second, y_ruleKind, y_ruleClasses, y_ruleNames, y_inlined, y_number, y_newName, y_family, y_vMethod, y_vLine, y_vHeld, y_put⟩ := v; have II := I; obtain ⟨C, M, R, t, o, rfl, rfl, rfl, rfl, rfl, rfl, rfl, rfl, rfl, rfl, rfl, rfl, rfl, rfl, rfl, rfl, rfl, rfl, rfl, rfl, rfl, ho, ht, hp, T, hb⟩ := (I : rl_p x_classCount x_methodCount x_ruleCount x_isBuilt x_faultPlace x_namedClasses x_madeClasses x_namedMethods x_liveMethods x_depth x_stepCount x_outCount x_traceCount x_isInterfaceClass x_chainOf x_interfacesOf x_ancestorsOf x_homeOf x_formOf x_nameOf x_lengthOf x_opOf x_classOf x_numberOf x_sourceMethod x_sourceLine x_callLine x_ruleKind x_ruleClasses x_ruleNames x_newNumber x_familyOf x_sightOf x_frameRow x_frameLine x_frameHeld x_outInts x_traceMethod x_traceLine y_classes y_methods y_rules y_place y_named y_made y_namedMethods y_live y_built y_depth y_steps y_outs y_ending y_isInterface y_isAbstract y_parent y_ancestors y_own y_many y_home y_name y_length y_op y_first y_second y_ruleKind y_ruleClasses y_ruleNames y_inlined y_number y_newName y_family y_vMethod y_vLine y_vHeld y_put)
  unfold wpX_out wpY_out
  dsimp only
  rcases pk_ix v1 (n := o) (by omega) with z | z | ⟨j, hj, rfl⟩
  · exact br_t z (yn_b (by omega) (fun j hj e => absurd z (by rw [e]; exact nI_pos (by omega))) (fun _ => ⟨rfl, II⟩))
  · exact br_f (ix_0 (by omega) z) (br_t z (yn_b (by omega) (fun j hj e => absurd z (by rw [e]; exact nI_ge hj (by omega))) (fun _ => ⟨rfl, II⟩)))
  · have i200 : vp_in (nI j) 200 := vp_in_nI (by omega) (by decide)
    exact br_f (nI_pos (by omega)) (br_f (nI_ge hj (by omega)) ⟨i200, yn_b (by omega) (fun _ _ _ => ⟨i200, rfl, II⟩) (fun z => absurd z (fun y => y.elim (nI_pos (by omega)) (nI_ge hj (by omega))))⟩)
theorem i_vc_trace {k : Nat} {u : SX} {v : SY} (I : i_Rel k u v) (hk : k + 5 ≤ 2560) (v1 : Int32) (v2 : Int32) : wpX_trace (fun r => wpY_trace (fun r' => r' = r ∧ i_Rel (k + 5) u v) v v1 v2) u v1 v2 := by
  obtain ⟨x_classCount, x_methodCount, x_ruleCount, x_isBuilt, x_faultPlace, x_namedClasses, x_madeClasses, x_namedMethods, x_liveMethods, x_depth, x_stepCount, x_outCount, x_traceCount, x_isInterfaceClass, x_chainOf, x_interfacesOf, x_ancestorsOf, x_homeOf, x_formOf, x_nameOf, x_lengthOf, x_opOf, x_classOf, x_numberOf, x_sourceMethod, x_sourceLine, x_callLine, x_ruleKind, x_ruleClasses, x_ruleNames, x_newNumber, x_familyOf, x_sightOf, x_frameRow, x_frameLine, x_frameHeld, x_outInts, x_traceMethod, x_traceLine⟩ := u; obtain ⟨y_classes, y_methods, y_rules, y_place, y_named, y_made, y_namedMethods, y_live, y_built, y_depth, y_steps, y_outs, y_ending, y_isInterface, y_isAbstract, y_parent, y_ancestors, y_own, y_many, y_home, y_name, y_length, y_op, y_first, y_second, y_ruleKind, y_ruleClasses, y_ruleNames, y_inlined, y_number, y_newName, y_family, y_vMethod, y_vLine, y_vHeld, y_put⟩ := v; have II := I; obtain ⟨C, M, R, t, o, rfl, rfl, rfl, rfl, rfl, rfl, rfl, rfl, rfl, rfl, rfl, rfl, rfl, rfl, rfl, rfl, rfl, rfl, rfl, rfl, rfl, ho, ht, hp, T, hb⟩ := (I : rl_p x_classCount x_methodCount x_ruleCount x_isBuilt x_faultPlace x_namedClasses x_madeClasses x_namedMethods x_liveMethods x_depth x_stepCount x_outCount x_traceCount x_isInterfaceClass x_chainOf x_interfacesOf x_ancestorsOf x_homeOf x_formOf x_nameOf x_lengthOf x_opOf x_classOf x_numberOf x_sourceMethod x_sourceLine x_callLine x_ruleKind x_ruleClasses x_ruleNames x_newNumber x_familyOf x_sightOf x_frameRow x_frameLine x_frameHeld x_outInts x_traceMethod x_traceLine y_classes y_methods y_rules y_place y_named y_made y_namedMethods y_live y_built y_depth y_steps y_outs y_ending y_isInterface y_isAbstract y_parent y_ancestors y_own y_many y_home y_name y_length y_op y_first y_second y_ruleKind y_ruleClasses y_ruleNames y_inlined y_number y_newName y_family y_vMethod y_vLine y_vHeld y_put)
  have t8 := ht.1
  unfold wpX_trace wpY_trace
  dsimp only
  rcases pk_ix v1 (n := t) (by omega) with z | z | ⟨j, hj, rfl⟩
  · exact br_t z (yn_b (by omega) (fun j hj e => absurd z (by rw [e]; exact nI_pos (by omega))) (fun _ => ⟨rfl, II⟩))
  · exact br_f (ix_0 (by omega) z) (br_f (ix_l z) (yn_b (by omega) (fun j hj e => absurd z (by rw [e]; exact nI_ge hj (by omega))) (fun _ => ⟨rfl, II⟩)))
  · have i8 : vp_in (nI j) 8 := vp_in_nI (by omega) (by decide)
    have j8 : vp_in (nI (t - 1 - j)) 8 := vp_in_nI (by omega) (by decide)
    obtain ⟨h1, h2⟩ := ht.2 j hj
    have e : nI t - 1 - nI j = nI (t - 1 - j) := by
      obtain ⟨s, rfl⟩ : ∃ s, t = s + 1 := ⟨t - 1, by omega⟩
      rw [nI_pred, pk_sub (by omega)]
      exact congrArg nI (by omega)
    rw [nI_c (by omega), e, nI_c (by omega)]
    refine br_f (nI_pos (by omega)) (br_t (nI_lt hj (by omega)) ?_)
    have yin : ∀ {A B : Prop}, B → wpY_in (fun r => (r = 0 → A) ∧ (¬ r = 0 → B)) (nI j) (nI t) := fun b => yn_b (by omega) (fun _ _ _ => b) (fun z => absurd z (fun y => y.elim (nI_pos (by omega)) (nI_ge hj (by omega))))
    rcases pk_ix v2 (n := 2) (by decide) with z | z | ⟨w, hw, rfl⟩
    · refine br_f (fun q => by rw [q] at z; exact absurd z (by decide)) (br_f (fun q => by rw [q] at z; exact absurd z (by decide)) ?_)
      exact yin (yn_b (n := 2) (by decide) (fun j hj e => absurd z (by rw [e]; exact nI_pos (by omega))) (fun _ => ⟨rfl, II⟩))
    · refine br_f (fun q => by rw [q] at z; exact absurd z (by decide)) (br_f (fun q => by rw [q] at z; exact absurd z (by decide)) ?_)
      exact yin (yn_b (n := 2) (by decide) (fun j hj e => absurd z (by rw [e]; exact nI_ge hj (by decide))) (fun _ => ⟨rfl, II⟩))
    · have in2 : ∀ {A B : Prop}, B → wpY_in (fun r => (r = 0 → A) ∧ (¬ r = 0 → B)) (nI w) 2 := fun b => yn_b (n := 2) (by decide) (fun _ _ _ => b) (fun z => absurd z (fun y => y.elim (nI_pos (by omega)) (nI_ge hw (by decide))))
      rcases (by omega : w = 0 ∨ w = 1) with q | q
      · subst q
        exact br_t rfl ⟨i8, yin (in2 (br_t rfl ⟨j8, h1.symm, II⟩))⟩
      · subst q
        exact br_f (by decide) (br_t rfl ⟨i8, yin (in2 (br_f (by decide) ⟨j8, h2.symm, II⟩))⟩)
theorem i_vc_renamed {k : Nat} {u : SX} {v : SY} (I : i_Rel k u v) (hk : k + 5 ≤ 2560) (v1 : Int32) : wpX_renamed (fun r => wpY_renamed (fun r' => r' = r ∧ i_Rel (k + 5) u v) v v1) u v1 := by
  obtain ⟨x_classCount, x_methodCount, x_ruleCount, x_isBuilt, x_faultPlace, x_namedClasses, x_madeClasses, x_namedMethods, x_liveMethods, x_depth, x_stepCount, x_outCount, x_traceCount, x_isInterfaceClass, x_chainOf, x_interfacesOf, x_ancestorsOf, x_homeOf, x_formOf, x_nameOf, x_lengthOf, x_opOf, x_classOf, x_numberOf, x_sourceMethod, x_sourceLine, x_callLine, x_ruleKind, x_ruleClasses, x_ruleNames, x_newNumber, x_familyOf, x_sightOf, x_frameRow, x_frameLine, x_frameHeld, x_outInts, x_traceMethod, x_traceLine⟩ := u; obtain ⟨y_classes, y_methods, y_rules, y_place, y_named, y_made, y_namedMethods, y_live, y_built, y_depth, y_steps, y_outs, y_ending, y_isInterface, y_isAbstract, y_parent, y_ancestors, y_own, y_many, y_home, y_name, y_length, y_op, y_first, y_second, y_ruleKind, y_ruleClasses, y_ruleNames, y_inlined, y_number, y_newName, y_family, y_vMethod, y_vLine, y_vHeld, y_put⟩ := v; have II := I; obtain ⟨C, M, R, t, o, rfl, rfl, rfl, rfl, rfl, rfl, rfl, rfl, rfl, rfl, rfl, rfl, rfl, rfl, rfl, rfl, rfl, rfl, rfl, rfl, rfl, ho, ht, hp, T, hb⟩ := (I : rl_p x_classCount x_methodCount x_ruleCount x_isBuilt x_faultPlace x_namedClasses x_madeClasses x_namedMethods x_liveMethods x_depth x_stepCount x_outCount x_traceCount x_isInterfaceClass x_chainOf x_interfacesOf x_ancestorsOf x_homeOf x_formOf x_nameOf x_lengthOf x_opOf x_classOf x_numberOf x_sourceMethod x_sourceLine x_callLine x_ruleKind x_ruleClasses x_ruleNames x_newNumber x_familyOf x_sightOf x_frameRow x_frameLine x_frameHeld x_outInts x_traceMethod x_traceLine y_classes y_methods y_rules y_place y_named y_made y_namedMethods y_live y_built y_depth y_steps y_outs y_ending y_isInterface y_isAbstract y_parent y_ancestors y_own y_many y_home y_name y_length y_op y_first y_second y_ruleKind y_ruleClasses y_ruleNames y_inlined y_number y_newName y_family y_vMethod y_vLine y_vHeld y_put)
  have h10 := T.1.1
  unfold wpX_renamed wpY_renamed
  dsimp only
  refine br_c (fun b0 => br_t b0 ⟨rfl, II⟩) (fun b0 => ?_)
  obtain ⟨_, b1, d1, kept, inl, _, _, _, _, xb, yn, _⟩ := hb b0
  unfold wpX_isClass
  dsimp only
  rcases pk_ix v1 (n := C) (by omega) with z | z | ⟨j, hj, rfl⟩
  · exact br_t z (br_0 (br_f b0 (yn_b (by omega) (fun j hj e => absurd z (by rw [e]; exact nI_pos (by omega))) (fun _ => ⟨rfl, II⟩))))
  · exact br_f (ix_0 (by omega) z) (br_t z (br_0 (br_f b0 (yn_b (by omega) (fun j hj e => absurd z (by rw [e]; exact nI_ge hj (by omega))) (fun _ => ⟨rfl, II⟩)))))
  · have i10 : vp_in (nI j) 10 := vp_in_nI (by omega) (by decide)
    refine br_f (nI_pos (by omega)) (br_f (nI_ge hj (by omega)) (br_1 ⟨i10, br_f b0 (yn_b (by omega) (fun _ _ _ => ⟨i10, ?_, II⟩) (fun z => absurd z (fun y => y.elim (nI_pos (by omega)) (nI_ge hj (by omega)))))⟩))
    rw [nI_c (by omega), yn j hj, xb.2.2.2.2.1 j hj]
end
section
/-! ===== keep, type, also ===== -/
section
variable {x_classCount x_methodCount x_ruleCount x_isBuilt x_faultPlace x_namedClasses x_madeClasses x_namedMethods x_liveMethods x_depth x_stepCount x_outCount x_traceCount : Int32} {x_isInterfaceClass x_chainOf x_interfacesOf x_ancestorsOf x_homeOf x_formOf x_nameOf x_lengthOf x_opOf x_classOf x_numberOf x_sourceMethod x_sourceLine x_callLine x_ruleKind x_ruleClasses x_ruleNames x_newNumber x_familyOf x_sightOf x_frameRow x_frameLine x_frameHeld x_outInts x_traceMethod x_traceLine : Nat → Int32} {y_classes y_methods y_rules y_place y_named y_made y_namedMethods y_live y_built y_depth y_steps y_outs y_ending : Int32} {y_isInterface y_isAbstract y_parent y_ancestors y_own y_many y_home y_name y_length y_op y_first y_second y_ruleKind y_ruleClasses y_ruleNames y_inlined y_number y_newName y_family y_vMethod y_vLine y_vHeld y_put : Nat → Int32} {C M R : Nat}
theorem tp_keep (T : tp_p C M R x_isInterfaceClass x_ancestorsOf x_interfacesOf x_chainOf y_parent y_many x_homeOf x_ruleKind x_ruleClasses x_ruleNames x_formOf x_nameOf x_lengthOf y_isAbstract y_name y_length x_opOf x_classOf x_numberOf x_sourceMethod x_sourceLine x_callLine y_op y_first y_second) (hR : R < 4) {j : Nat} (hj : j < 2) (a b : Int32) : tp_p C M (R + 1) x_isInterfaceClass x_ancestorsOf x_interfacesOf x_chainOf y_parent y_many x_homeOf (upd x_ruleKind R (nI j)) (upd x_ruleClasses R a) (upd x_ruleNames R b) x_formOf x_nameOf x_lengthOf y_isAbstract y_name y_length x_opOf x_classOf x_numberOf x_sourceMethod x_sourceLine x_callLine y_op y_first y_second := by
  obtain ⟨h1, h2, h3, h4, h5, h6, h7, h8⟩ := T
  refine ⟨h1, h2, h3, h4, h5, h6, by omega, fun r hr => ?_⟩
  by_cases c : r = R
  · subst c
    rw [pk_us]
    rcases (by omega : j = 0 ∨ j = 1) with z | z
    · subst z; exact Or.inl rfl
    · subst z; exact Or.inr rfl
  · rw [pk_un c]; exact h8 r (by omega)
theorem tp_hi (T : tp_p C M R x_isInterfaceClass x_ancestorsOf x_interfacesOf x_chainOf y_parent y_many x_homeOf x_ruleKind x_ruleClasses x_ruleNames x_formOf x_nameOf x_lengthOf y_isAbstract y_name y_length x_opOf x_classOf x_numberOf x_sourceMethod x_sourceLine x_callLine y_op y_first y_second) {C' : Nat} {ifc' anc' own' chn' par' many' : Nat → Int32} (hC : C ≤ C') (h : hi_ok C' ifc' anc' chn' par') (ho : ∀ c, c < C' → ow_p (own' c) (many' c)) (hi : ∀ c, c < C → ifc' c = x_isInterfaceClass c) :
    tp_p C' M R ifc' anc' own' chn' par' many' x_homeOf x_ruleKind x_ruleClasses x_ruleNames x_formOf x_nameOf x_lengthOf y_isAbstract y_name y_length x_opOf x_classOf x_numberOf x_sourceMethod x_sourceLine x_callLine y_op y_first y_second := by
  obtain ⟨h1, h2, h3, h4, h5, h6, h7, h8⟩ := T
  refine ⟨h, ho, ⟨h3.1, fun m hm => ?_, h3.2.2⟩, fun m hm => ?_, h5, h6, h7, h8⟩
  · obtain ⟨c, hc, e⟩ := h3.2.1 m hm
    exact ⟨c, by omega, e⟩
  · obtain ⟨p1, p2, p3, p4⟩ := h4 m hm
    refine ⟨p1, p2, p3, fun z => p4 ?_⟩
    rw [hi _ (mh_h h3 h1.1 hm).2] at z
    exact z
end
theorem i_vc_keep {k : Nat} {u : SX} {v : SY} (I : i_Rel k u v) (hk : k + 5 ≤ 2560) (v1 : Int32) (v2 : Int32) (v3 : Int32) : wpX_keep (fun r u' => wpY_keep (fun r' v' => r' = r ∧ i_Rel (k + 5) u' v') v v1 v2 v3) u v1 v2 v3 := by
  obtain ⟨x_classCount, x_methodCount, x_ruleCount, x_isBuilt, x_faultPlace, x_namedClasses, x_madeClasses, x_namedMethods, x_liveMethods, x_depth, x_stepCount, x_outCount, x_traceCount, x_isInterfaceClass, x_chainOf, x_interfacesOf, x_ancestorsOf, x_homeOf, x_formOf, x_nameOf, x_lengthOf, x_opOf, x_classOf, x_numberOf, x_sourceMethod, x_sourceLine, x_callLine, x_ruleKind, x_ruleClasses, x_ruleNames, x_newNumber, x_familyOf, x_sightOf, x_frameRow, x_frameLine, x_frameHeld, x_outInts, x_traceMethod, x_traceLine⟩ := u; obtain ⟨y_classes, y_methods, y_rules, y_place, y_named, y_made, y_namedMethods, y_live, y_built, y_depth, y_steps, y_outs, y_ending, y_isInterface, y_isAbstract, y_parent, y_ancestors, y_own, y_many, y_home, y_name, y_length, y_op, y_first, y_second, y_ruleKind, y_ruleClasses, y_ruleNames, y_inlined, y_number, y_newName, y_family, y_vMethod, y_vLine, y_vHeld, y_put⟩ := v; have II := I; obtain ⟨C, M, R, t, o, rfl, rfl, rfl, rfl, rfl, rfl, rfl, rfl, rfl, rfl, rfl, rfl, rfl, rfl, rfl, rfl, rfl, rfl, rfl, rfl, rfl, ho, ht, hp, T, hb⟩ := (I : rl_p x_classCount x_methodCount x_ruleCount x_isBuilt x_faultPlace x_namedClasses x_madeClasses x_namedMethods x_liveMethods x_depth x_stepCount x_outCount x_traceCount x_isInterfaceClass x_chainOf x_interfacesOf x_ancestorsOf x_homeOf x_formOf x_nameOf x_lengthOf x_opOf x_classOf x_numberOf x_sourceMethod x_sourceLine x_callLine x_ruleKind x_ruleClasses x_ruleNames x_newNumber x_familyOf x_sightOf x_frameRow x_frameLine x_frameHeld x_outInts x_traceMethod x_traceLine y_classes y_methods y_rules y_place y_named y_made y_namedMethods y_live y_built y_depth y_steps y_outs y_ending y_isInterface y_isAbstract y_parent y_ancestors y_own y_many y_home y_name y_length y_op y_first y_second y_ruleKind y_ruleClasses y_ruleNames y_inlined y_number y_newName y_family y_vMethod y_vLine y_vHeld y_put)
  have h4 := T.2.2.2.2.2.2.1
  unfold wpX_keep wpY_keep
  dsimp only
  refine pk_eq R 4 (fun e => br_t (by rw [e]; rfl) ⟨rfl, II⟩) (fun e => ?_)
  have ne : ¬ nI R = 4 := fun z => e ((nI_eq (a := R) (b := 4) (by omega) (by omega)).mp z)
  rcases pk_ix v1 (n := 2) (by decide) with z | z | ⟨j, hj, rfl⟩
  · exact br_t z (br_f ne (yn_b (n := 2) (by decide) (fun j hj e => absurd z (by rw [e]; exact nI_pos (by omega))) (fun _ => ⟨rfl, II⟩)))
  · have z1 : ¬ v1 ≤ 1 := fun q => by
      rw [Int32.le_iff_toInt_le] at q z
      have e1 : (1 : Int32).toInt = 1 := by decide
      have e2 : (nI 2).toInt = 2 := by decide
      omega
    exact br_f (ix_0 (by decide) z) (br_f z1 (br_f ne (yn_b (n := 2) (by decide) (fun j hj e => absurd z (by rw [e]; exact nI_ge hj (by decide))) (fun _ => ⟨rfl, II⟩))))
  · have i4 : vp_in (nI R) 4 := vp_in_nI (by omega) (by decide)
    rw [nI_c (by omega)]
    refine br_f (nI_pos (by omega)) (br_t (nI_le (b := 1) (by omega) (by decide)) ⟨i4, nm_e ⟨i4, nm_e ⟨i4, nm_e (nm_r (nI_1 R) (br_f ne ?_))⟩⟩⟩)
    refine yn_b (n := 2) (by decide) (fun _ _ _ => ⟨i4, nm_e ⟨i4, nm_e ⟨i4, nm_e (nm_r (nI_1 R) ⟨rfl, ?_⟩)⟩⟩⟩) (fun z => absurd z (fun y => y.elim (nI_pos (by omega)) (nI_ge hj (by decide))))
    exact rl_0 (k + 5) ho ht hp (tp_keep T (by omega) hj _ _)
theorem i_vc_type {k : Nat} {u : SX} {v : SY} (I : i_Rel k u v) (hk : k + 5 ≤ 2560) (v1 : Int32) (v2 : Int32) : wpX_type (fun r u' => wpY_type (fun r' v' => r' = r ∧ i_Rel (k + 5) u' v') v (lw_bz v1) v2) u (lw_bz v1) v2 := by
  obtain ⟨x_classCount, x_methodCount, x_ruleCount, x_isBuilt, x_faultPlace, x_namedClasses, x_madeClasses, x_namedMethods, x_liveMethods, x_depth, x_stepCount, x_outCount, x_traceCount, x_isInterfaceClass, x_chainOf, x_interfacesOf, x_ancestorsOf, x_homeOf, x_formOf, x_nameOf, x_lengthOf, x_opOf, x_classOf, x_numberOf, x_sourceMethod, x_sourceLine, x_callLine, x_ruleKind, x_ruleClasses, x_ruleNames, x_newNumber, x_familyOf, x_sightOf, x_frameRow, x_frameLine, x_frameHeld, x_outInts, x_traceMethod, x_traceLine⟩ := u; obtain ⟨y_classes, y_methods, y_rules, y_place, y_named, y_made, y_namedMethods, y_live, y_built, y_depth, y_steps, y_outs, y_ending, y_isInterface, y_isAbstract, y_parent, y_ancestors, y_own, y_many, y_home, y_name, y_length, y_op, y_first, y_second, y_ruleKind, y_ruleClasses, y_ruleNames, y_inlined, y_number, y_newName, y_family, y_vMethod, y_vLine, y_vHeld, y_put⟩ := v; have II := I; obtain ⟨C, M, R, t, o, rfl, rfl, rfl, rfl, rfl, rfl, rfl, rfl, rfl, rfl, rfl, rfl, rfl, rfl, rfl, rfl, rfl, rfl, rfl, rfl, rfl, ho, ht, hp, T, hb⟩ := (I : rl_p x_classCount x_methodCount x_ruleCount x_isBuilt x_faultPlace x_namedClasses x_madeClasses x_namedMethods x_liveMethods x_depth x_stepCount x_outCount x_traceCount x_isInterfaceClass x_chainOf x_interfacesOf x_ancestorsOf x_homeOf x_formOf x_nameOf x_lengthOf x_opOf x_classOf x_numberOf x_sourceMethod x_sourceLine x_callLine x_ruleKind x_ruleClasses x_ruleNames x_newNumber x_familyOf x_sightOf x_frameRow x_frameLine x_frameHeld x_outInts x_traceMethod x_traceLine y_classes y_methods y_rules y_place y_named y_made y_namedMethods y_live y_built y_depth y_steps y_outs y_ending y_isInterface y_isAbstract y_parent y_ancestors y_own y_many y_home y_name y_length y_op y_first y_second y_ruleKind y_ruleClasses y_ruleNames y_inlined y_number y_newName y_family y_vMethod y_vLine y_vHeld y_put)
  have h10 := T.1.1
  generalize lw_bz v1 = p0
  unfold wpX_type wpY_type
  dsimp only
  have c10 : ∀ {C : Nat}, C ≤ 10 → ¬ C = 10 → ¬ nI C = 10 := fun h e z => e ((nI_eq (b := 10) (by omega) (by omega)).mp z)
  refine br_c (fun e => ?_) (fun e => ?_)
  · subst e
    unfold wX_type_28
    refine pk_eq C 10 (fun e => br_t rfl ?_) (fun e => ?_)
    · unfold wY_type_31
      exact br_t (by rw [e]; rfl) ⟨rfl, II⟩
    · have i10 : vp_in (nI C) 10 := vp_in_nI (by omega) (by decide)
      rw [nI_c (show C < 10000 by omega)]
      refine nm_r (nI_1 C) ⟨i10, nm_e ⟨i10, nm_e ⟨i10, nm_e ⟨i10, nm_e (br_t rfl (br_t rfl ?_))⟩⟩⟩⟩
      unfold wY_type_31
      rw [nI_c (show C < 10000 by omega)]
      refine br_f (c10 h10 e) (nm_r (nI_1 C) ⟨i10, nm_e ⟨i10, nm_e (br_f (by decide) ?_)⟩⟩)
      unfold wY_type_91
      rw [nI_c (show C < 10000 by omega)]
      have or0 : ((1 : Int32) <<< (nI C &&& 31)) ||| 0 = (1 : Int32) <<< (nI C &&& 31) := by
        apply b_ext; intro i _; rw [b_or, b_0, Bool.or_false]
      rw [or0]
      refine ⟨i10, nm_e ⟨i10, nm_e ⟨i10, nm_e ⟨rfl, ?_⟩⟩⟩⟩
      refine rl_0 (C := C + 1) (k + 5) ho ht (fun c hc z => ?_) (tp_hi T (by omega) (hi_1 T.1 (by omega) _) (fun c hc => ?_) (fun c hc => pk_un (by omega)))
      · by_cases w : c = C
        · subst w; exact pk_us
        · rw [pk_un w] at z ⊢; exact hp c (by omega) z
      · by_cases w : c = C
        · subst w; rw [pk_us, pk_us]; exact Or.inl ⟨rfl, rfl⟩
        · rw [pk_un w, pk_un w]; exact T.2.1 c (by omega)
  · have bad : (v2 < 0 ∨ nI C ≤ v2) → wpY_type (fun r' v' => r' = (-1) ∧ i_Rel (k + 5) (nI C, nI M, nI R, x_isBuilt, x_faultPlace, x_namedClasses, x_madeClasses, x_namedMethods, x_liveMethods, x_depth, x_stepCount, nI o, nI t, x_isInterfaceClass, x_chainOf, x_interfacesOf, x_ancestorsOf, x_homeOf, x_formOf, x_nameOf, x_lengthOf, x_opOf, x_classOf, x_numberOf, x_sourceMethod, x_sourceLine, x_callLine, x_ruleKind, x_ruleClasses, x_ruleNames, x_newNumber, x_familyOf, x_sightOf, x_frameRow, x_frameLine, x_frameHeld, x_outInts, x_traceMethod, x_traceLine) v') (nI C, nI M, nI R, x_faultPlace, y_named, y_made, y_namedMethods, y_live, x_isBuilt, nI t, x_stepCount, nI o, y_ending, x_isInterfaceClass, y_isAbstract, y_parent, x_ancestorsOf, x_interfacesOf, y_many, x_homeOf, y_name, y_length, y_op, y_first, y_second, x_ruleKind, x_ruleClasses, x_ruleNames, y_inlined, y_number, y_newName, y_family, y_vMethod, y_vLine, y_vHeld, x_outInts) p0 v2 := fun z => by
      unfold wpY_type
      dsimp only
      refine br_f e (yn_b (by omega) (fun j hj ej => ?_) (fun _ => ⟨rfl, II⟩))
      rw [ej] at z
      exact absurd z (fun y => y.elim (nI_pos (by omega)) (nI_ge hj (by omega)))
    rcases pk_ix v2 (n := C) (by omega) with z | z | ⟨p, hpC, rfl⟩
    · refine br_c (fun p0z => ?_) (fun p0z => bad (Or.inl z))
      unfold wpX_isClass
      exact br_t z (br_0 (bad (Or.inl z)))
    · refine br_c (fun p0z => ?_) (fun p0z => bad (Or.inr z))
      unfold wpX_isClass
      exact br_f (ix_0 (by omega) z) (br_t z (br_0 (bad (Or.inr z))))
    · have ip10 : vp_in (nI p) 10 := vp_in_nI (by omega) (by decide)
      have yin : ∀ {A B : Prop}, B → wpY_in (fun r => (r = 0 → A) ∧ (¬ r = 0 → B)) (nI p) (nI C) := fun b => yn_b (by omega) (fun _ _ _ => b) (fun z => absurd z (fun y => y.elim (nI_pos (by omega)) (nI_ge hpC (by omega))))
      rw [nI_c (show p < 10000 by omega)]
      refine br_c (fun p0z => ?_) (fun p0z => br_f e (yin ⟨ip10, br_c (fun q => br_f p0z ⟨rfl, II⟩) (fun q => ⟨rfl, II⟩)⟩))
      unfold wpX_isClass
      refine br_f (nI_pos (by omega)) (br_f (nI_ge hpC (by omega)) (br_1 ⟨ip10, br_c (fun ifp => ?_) (fun ifp => br_f e (yin ⟨ip10, br_f ifp ⟨rfl, II⟩⟩))⟩))
      unfold wX_type_28
      refine pk_eq C 10 (fun e10 => br_f e (yin ⟨ip10, br_t ifp (br_t p0z ?_)⟩)) (fun e10 => ?_)
      · unfold wY_type_31
        exact br_t (by rw [e10]; rfl) ⟨rfl, II⟩
      · have i10 : vp_in (nI C) 10 := vp_in_nI (by omega) (by decide)
        have nCp : p ≠ C := by omega
        rw [nI_c (show C < 10000 by omega), nI_c (show p < 10000 by omega)]
        refine nm_r (nI_1 C) ⟨i10, nm_e ⟨i10, nm_e ⟨i10, nm_e ⟨i10, nm_e (br_f e ⟨i10, ip10, i10, nm_e ⟨i10, ip10, i10, nm_e ?_⟩⟩)⟩⟩⟩⟩
        refine br_f e (yin ⟨ip10, br_t ifp (br_t p0z ?_)⟩)
        unfold wY_type_31
        rw [nI_c (show C < 10000 by omega), nI_c (show p < 10000 by omega)]
        refine br_f (c10 h10 e10) (nm_r (nI_1 C) ⟨i10, nm_e ⟨i10, nm_e (br_t (nI_pos' (by omega)) ⟨ip10, ?_⟩)⟩⟩)
        unfold wY_type_91
        rw [nI_c (show C < 10000 by omega)]
        refine ⟨i10, nm_e ⟨i10, nm_e ⟨i10, nm_e ⟨rfl, ?_⟩⟩⟩⟩
        rw [pk_us, pk_un nCp, up_up, pk_us, pk_un nCp, up_up]
        refine rl_0 (C := C + 1) (k + 5) ho ht (fun c hc z => ?_) (tp_hi T (by omega) (hi_2 T.1 (by omega) hpC ifp _) (fun c hc => ?_) (fun c hc => pk_un (by omega)))
        · by_cases w : c = C
          · subst w
            rw [pk_us, p0z] at z
            exact absurd (by decide) z
          · rw [pk_un w] at z ⊢; exact hp c (by omega) z
        · by_cases w : c = C
          · subst w; rw [pk_us, pk_us]; exact Or.inl ⟨rfl, rfl⟩
          · rw [pk_un w, pk_un w]; exact T.2.1 c (by omega)
theorem i_vc_also {k : Nat} {u : SX} {v : SY} (I : i_Rel k u v) (hk : k + 5 ≤ 2560) (v1 : Int32) : wpX_also (fun r u' => wpY_also (fun r' v' => r' = r ∧ i_Rel (k + 5) u' v') v v1) u v1 := by
  obtain ⟨x_classCount, x_methodCount, x_ruleCount, x_isBuilt, x_faultPlace, x_namedClasses, x_madeClasses, x_namedMethods, x_liveMethods, x_depth, x_stepCount, x_outCount, x_traceCount, x_isInterfaceClass, x_chainOf, x_interfacesOf, x_ancestorsOf, x_homeOf, x_formOf, x_nameOf, x_lengthOf, x_opOf, x_classOf, x_numberOf, x_sourceMethod, x_sourceLine, x_callLine, x_ruleKind, x_ruleClasses, x_ruleNames, x_newNumber, x_familyOf, x_sightOf, x_frameRow, x_frameLine, x_frameHeld, x_outInts, x_traceMethod, x_traceLine⟩ := u; obtain ⟨y_classes, y_methods, y_rules, y_place, y_named, y_made, y_namedMethods, y_live, y_built, y_depth, y_steps, y_outs, y_ending, y_isInterface, y_isAbstract, y_parent, y_ancestors, y_own, y_many, y_home, y_name, y_length, y_op, y_first, y_second, y_ruleKind, y_ruleClasses, y_ruleNames, y_inlined, y_number, y_newName, y_family, y_vMethod, y_vLine, y_vHeld, y_put⟩ := v; have II := I; obtain ⟨C, M, R, t, o, rfl, rfl, rfl, rfl, rfl, rfl, rfl, rfl, rfl, rfl, rfl, rfl, rfl, rfl, rfl, rfl, rfl, rfl, rfl, rfl, rfl, ho, ht, hp, T, hb⟩ := (I : rl_p x_classCount x_methodCount x_ruleCount x_isBuilt x_faultPlace x_namedClasses x_madeClasses x_namedMethods x_liveMethods x_depth x_stepCount x_outCount x_traceCount x_isInterfaceClass x_chainOf x_interfacesOf x_ancestorsOf x_homeOf x_formOf x_nameOf x_lengthOf x_opOf x_classOf x_numberOf x_sourceMethod x_sourceLine x_callLine x_ruleKind x_ruleClasses x_ruleNames x_newNumber x_familyOf x_sightOf x_frameRow x_frameLine x_frameHeld x_outInts x_traceMethod x_traceLine y_classes y_methods y_rules y_place y_named y_made y_namedMethods y_live y_built y_depth y_steps y_outs y_ending y_isInterface y_isAbstract y_parent y_ancestors y_own y_many y_home y_name y_length y_op y_first y_second y_ruleKind y_ruleClasses y_ruleNames y_inlined y_number y_newName y_family y_vMethod y_vLine y_vHeld y_put)
  have h10 := T.1.1
  unfold wpX_also
  dsimp only
  rcases Nat.eq_zero_or_pos C with c0 | c0
  · subst c0
    have e : nI 0 - 1 = -1 := by decide
    refine nm_r e ?_
    have yy : wpY_also (fun r' v' => r' = 0 ∧ i_Rel (k + 5) (nI 0, nI M, nI R, x_isBuilt, x_faultPlace, x_namedClasses, x_madeClasses, x_namedMethods, x_liveMethods, x_depth, x_stepCount, nI o, nI t, x_isInterfaceClass, x_chainOf, x_interfacesOf, x_ancestorsOf, x_homeOf, x_formOf, x_nameOf, x_lengthOf, x_opOf, x_classOf, x_numberOf, x_sourceMethod, x_sourceLine, x_callLine, x_ruleKind, x_ruleClasses, x_ruleNames, x_newNumber, x_familyOf, x_sightOf, x_frameRow, x_frameLine, x_frameHeld, x_outInts, x_traceMethod, x_traceLine) v') (nI 0, nI M, nI R, x_faultPlace, y_named, y_made, y_namedMethods, y_live, x_isBuilt, nI t, x_stepCount, nI o, y_ending, x_isInterfaceClass, y_isAbstract, y_parent, x_ancestorsOf, x_interfacesOf, y_many, x_homeOf, y_name, y_length, y_op, y_first, y_second, x_ruleKind, x_ruleClasses, x_ruleNames, y_inlined, y_number, y_newName, y_family, y_vMethod, y_vLine, y_vHeld, x_outInts) v1 := by
      unfold wpY_also
      dsimp only
      exact nm_r e (br_t (by decide) ⟨rfl, II⟩)
    refine br_c (fun _ => yy) (fun z => br_t ?_ yy)
    obtain ⟨j, hj, rfl⟩ := nI_of z
    rw [Int32.le_iff_toInt_le, nI_toInt hj]
    have : (-1 : Int32).toInt = -1 := by decide
    omega
  · obtain ⟨c, rfl⟩ : ∃ c, C = c + 1 := ⟨C - 1, by omega⟩
    have ic : vp_in (nI c) 10 := vp_in_nI (by omega) (by decide)
    refine nm_r (nI_pred c) ?_
    have yb : (v1 < 0 ∨ nI c ≤ v1) → wpY_also (fun r' v' => r' = 0 ∧ i_Rel (k + 5) (nI (c + 1), nI M, nI R, x_isBuilt, x_faultPlace, x_namedClasses, x_madeClasses, x_namedMethods, x_liveMethods, x_depth, x_stepCount, nI o, nI t, x_isInterfaceClass, x_chainOf, x_interfacesOf, x_ancestorsOf, x_homeOf, x_formOf, x_nameOf, x_lengthOf, x_opOf, x_classOf, x_numberOf, x_sourceMethod, x_sourceLine, x_callLine, x_ruleKind, x_ruleClasses, x_ruleNames, x_newNumber, x_familyOf, x_sightOf, x_frameRow, x_frameLine, x_frameHeld, x_outInts, x_traceMethod, x_traceLine) v') (nI (c + 1), nI M, nI R, x_faultPlace, y_named, y_made, y_namedMethods, y_live, x_isBuilt, nI t, x_stepCount, nI o, y_ending, x_isInterfaceClass, y_isAbstract, y_parent, x_ancestorsOf, x_interfacesOf, y_many, x_homeOf, y_name, y_length, y_op, y_first, y_second, x_ruleKind, x_ruleClasses, x_ruleNames, y_inlined, y_number, y_newName, y_family, y_vMethod, y_vLine, y_vHeld, x_outInts) v1 := fun z => by
      unfold wpY_also
      dsimp only
      refine nm_r (nI_pred c) (br_f (nI_pos (by omega)) (yn_b (by omega) (fun j hj e => ?_) (fun _ => ⟨rfl, II⟩)))
      rw [e] at z
      exact absurd z (fun y => y.elim (nI_pos (by omega)) (nI_ge hj (by omega)))
    rcases pk_ix v1 (n := c) (by omega) with z | z | ⟨i, hi, rfl⟩
    · exact br_t z (yb (Or.inl z))
    · exact br_f (ix_0 (by omega) z) (br_t z (yb (Or.inr z)))
    · have ii : vp_in (nI i) 10 := vp_in_nI (by omega) (by decide)
      have ow := T.2.1 c (by omega)
      rw [nI_c (show i < 10000 by omega), nI_c (show c < 10000 by omega)]
      have ya : ∀ {P : Int32 → SY → Prop}, ((x_isInterfaceClass i = 0 → P 0 (nI (c + 1), nI M, nI R, x_faultPlace, y_named, y_made, y_namedMethods, y_live, x_isBuilt, nI t, x_stepCount, nI o, y_ending, x_isInterfaceClass, y_isAbstract, y_parent, x_ancestorsOf, x_interfacesOf, y_many, x_homeOf, y_name, y_length, y_op, y_first, y_second, x_ruleKind, x_ruleClasses, x_ruleNames, y_inlined, y_number, y_newName, y_family, y_vMethod, y_vLine, y_vHeld, x_outInts))) →
          (¬ x_isInterfaceClass i = 0 → (bt (x_interfacesOf c) i = true ∨ y_many c = 2) → P 0 (nI (c + 1), nI M, nI R, x_faultPlace, y_named, y_made, y_namedMethods, y_live, x_isBuilt, nI t, x_stepCount, nI o, y_ending, x_isInterfaceClass, y_isAbstract, y_parent, x_ancestorsOf, x_interfacesOf, y_many, x_homeOf, y_name, y_length, y_op, y_first, y_second, x_ruleKind, x_ruleClasses, x_ruleNames, y_inlined, y_number, y_newName, y_family, y_vMethod, y_vLine, y_vHeld, x_outInts)) →
          (¬ x_isInterfaceClass i = 0 → ¬ bt (x_interfacesOf c) i = true → ¬ y_many c = 2 → P 1 (nI (c + 1), nI M, nI R, x_faultPlace, y_named, y_made, y_namedMethods, y_live, 0, nI t, x_stepCount, nI o, y_ending, x_isInterfaceClass, y_isAbstract, y_parent, upd x_ancestorsOf c (x_ancestorsOf c ||| x_ancestorsOf i), upd x_interfacesOf c (x_interfacesOf c ||| ((1 : Int32) <<< (nI i &&& 31))), upd y_many c (y_many c + 1), x_homeOf, y_name, y_length, y_op, y_first, y_second, x_ruleKind, x_ruleClasses, x_ruleNames, y_inlined, y_number, y_newName, y_family, y_vMethod, y_vLine, y_vHeld, x_outInts)) →
          wpY_also P (nI (c + 1), nI M, nI R, x_faultPlace, y_named, y_made, y_namedMethods, y_live, x_isBuilt, nI t, x_stepCount, nI o, y_ending, x_isInterfaceClass, y_isAbstract, y_parent, x_ancestorsOf, x_interfacesOf, y_many, x_homeOf, y_name, y_length, y_op, y_first, y_second, x_ruleKind, x_ruleClasses, x_ruleNames, y_inlined, y_number, y_newName, y_family, y_vMethod, y_vLine, y_vHeld, x_outInts) (nI i) := by
        intro P k1 k2 k3
        unfold wpY_also
        dsimp only
        refine nm_r (nI_pred c) (br_f (nI_pos (by omega)) (yn_b (by omega) (fun _ _ _ => ⟨ii, ?_⟩) (fun z => absurd z (fun y => y.elim (nI_pos (by omega)) (nI_ge hi (by omega))))))
        rw [nI_c (show i < 10000 by omega), nI_c (show c < 10000 by omega)]
        refine br_c k1 (fun f => ⟨ic, yb_b (by omega) (fun b => k2 f (Or.inl b)) (fun b => ⟨ic, br_c (fun m2 => k2 f (Or.inr m2)) (fun m2 => ⟨ic, ic, nm_e ⟨ic, ic, nm_e ⟨ic, ii, ic, nm_e (k3 f b m2)⟩⟩⟩)⟩)⟩)
      refine br_f (nI_pos (by omega)) (br_f (nI_ge hi (by omega)) ⟨ii, br_c (fun f => ya (fun _ => ⟨rfl, II⟩) (fun q _ => absurd f q) (fun q _ _ => absurd f q)) (fun f => ⟨ic, nm_e ?_⟩)⟩)
      refine ek_if (ow_e ow) (fun m2 => ?_) (fun m2 => ?_)
      · unfold wX_also_47
        rw [nI_c (show i < 10000 by omega), nI_c (show c < 10000 by omega)]
        refine br_0 (xh_b (by omega) (fun b => ya (fun q => absurd q f) (fun _ _ => ⟨rfl, II⟩) (fun _ q _ => absurd b q)) (fun b => ⟨ic, nm_e ⟨ic, ii, ic, nm_e ?_⟩⟩))
        refine ya (fun q => absurd q f) (fun _ q => absurd q (fun z => z.elim b m2)) (fun _ _ _ => ⟨rfl, ?_⟩)
        refine rl_0 (C := c + 1) (k + 5) ho ht hp (tp_hi T (Nat.le_refl _) (hi_3 T.1 hp hi f) (fun d hd => ?_) (fun _ _ => rfl))
        by_cases w : d = c
        · subst w; rw [pk_us, pk_us]; exact ow_n ow m2 (by omega) b
        · rw [pk_un w, pk_un w]; exact T.2.1 d hd
      · unfold wX_also_47
        have m2' : y_many c = 2 := Decidable.byContradiction m2
        exact br_1 (ya (fun q => absurd q f) (fun _ _ => ⟨rfl, II⟩) (fun _ _ q => absurd m2' q))
end
section
/-! ===== method, code ===== -/
section
variable {x_classCount x_methodCount x_ruleCount x_isBuilt x_faultPlace x_namedClasses x_madeClasses x_namedMethods x_liveMethods x_depth x_stepCount x_outCount x_traceCount : Int32} {x_isInterfaceClass x_chainOf x_interfacesOf x_ancestorsOf x_homeOf x_formOf x_nameOf x_lengthOf x_opOf x_classOf x_numberOf x_sourceMethod x_sourceLine x_callLine x_ruleKind x_ruleClasses x_ruleNames x_newNumber x_familyOf x_sightOf x_frameRow x_frameLine x_frameHeld x_outInts x_traceMethod x_traceLine : Nat → Int32} {y_classes y_methods y_rules y_place y_named y_made y_namedMethods y_live y_built y_depth y_steps y_outs y_ending : Int32} {y_isInterface y_isAbstract y_parent y_ancestors y_own y_many y_home y_name y_length y_op y_first y_second y_ruleKind y_ruleClasses y_ruleNames y_inlined y_number y_newName y_family y_vMethod y_vLine y_vHeld y_put : Nat → Int32} {C M R : Nat}
theorem tp_meth {c n : Nat} {f a : Int32} (T : tp_p (c + 1) M R x_isInterfaceClass x_ancestorsOf x_interfacesOf x_chainOf y_parent y_many x_homeOf x_ruleKind x_ruleClasses x_ruleNames x_formOf x_nameOf x_lengthOf y_isAbstract y_name y_length x_opOf x_classOf x_numberOf x_sourceMethod x_sourceLine x_callLine y_op y_first y_second)
    (hM : M < 30) (hn : n < 10) (hd : dc_v M x_homeOf (fun m => decide (y_name m = nI n)) c = none) (hf : (a = 0 ∧ f = 2) ∨ (¬ a = 0 ∧ f = 1)) (hi : ¬ x_isInterfaceClass c = 0 → ¬ a = 0) :
    tp_p (c + 1) (M + 1) R x_isInterfaceClass x_ancestorsOf x_interfacesOf x_chainOf y_parent y_many (upd x_homeOf M (nI c)) x_ruleKind x_ruleClasses x_ruleNames (upd x_formOf M f) (upd x_nameOf M (nI n)) (upd x_lengthOf M 0) (upd y_isAbstract M a) (upd y_name M (nI n)) (upd y_length M 0) x_opOf x_classOf x_numberOf x_sourceMethod x_sourceLine x_callLine y_op y_first y_second := by
  obtain ⟨h1, h2, h3, h4, h5, h6, h7, h8⟩ := T
  have h10 := h1.1
  have hce : hq_t (nI c) = c := hq_e (by omega)
  have dn : ∀ b, b < M → y_name b = nI n → hq_t (x_homeOf b) = c → False := fun b hb e1 e2 => sc_fn hd b hb (bb_a.mpr ⟨decide_eq_true e2, decide_eq_true e1⟩)
  refine ⟨h1, h2, ⟨by omega, fun m hm => ?_, fun p q hpq hq => ?_⟩, fun m hm => ?_, fun p q hp hq e1 e2 => ?_, fun m k hm hk => ?_, h7, h8⟩
  · by_cases w : m = M
    · subst w; rw [pk_us]; exact ⟨c, by omega, rfl⟩
    · rw [pk_un w]; exact h3.2.1 m (by omega)
  · rw [pk_un (show p ≠ M by omega)]
    by_cases w : q = M
    · subst w; rw [pk_us, hce]
      have := (mh_h h3 h10 (m := p) (by omega)).2
      omega
    · rw [pk_un w]; exact h3.2.2 p q hpq (by omega)
  · by_cases w : m = M
    · subst w
      unfold me_p
      rw [pk_us, pk_us, pk_us, pk_us, pk_us, pk_us, pk_us, hce]
      exact ⟨⟨n, hn, rfl, rfl⟩, ⟨0, by omega, rfl, rfl⟩, hf, hi⟩
    · have := h4 m (by omega)
      unfold me_p at this ⊢
      rw [pk_un w, pk_un w, pk_un w, pk_un w, pk_un w, pk_un w, pk_un w]
      exact this
  · by_cases w : p = M
    · by_cases x : q = M
      · omega
      · subst w
        rw [pk_us, pk_un x] at e1 e2
        rw [hce] at e2
        exact (dn q (by omega) e1.symm e2.symm).elim
    · by_cases x : q = M
      · subst x
        rw [pk_us, pk_un w] at e1 e2
        rw [hce] at e2
        exact (dn p (by omega) e1 e2).elim
      · rw [pk_un w, pk_un x] at e1 e2
        exact h5 p q (by omega) (by omega) e1 e2
  · by_cases w : m = M
    · subst w
      rw [pk_us] at hk
      have : hq_t (0 : Int32) = 0 := hq_e (n := 0) (by decide)
      omega
    · rw [pk_un w] at hk
      exact h6 m k (by omega) hk
end
theorem lw_0 (v : Int32) : vp_nar .boolean (lw_bz v) = lw_bz v := by
  rcases lw_bz_01 v with e | e <;> rw [e] <;> rfl
theorem i_vc_method {k : Nat} {u : SX} {v : SY} (I : i_Rel k u v) (hk : k + 5 ≤ 2560) (v1 : Int32) (v2 : Int32) : wpX_method (fun r u' => wpY_method (fun r' v' => r' = r ∧ i_Rel (k + 5) u' v') v v1 (lw_bz v2)) u v1 (lw_bz v2) := by
  obtain ⟨x_classCount, x_methodCount, x_ruleCount, x_isBuilt, x_faultPlace, x_namedClasses, x_madeClasses, x_namedMethods, x_liveMethods, x_depth, x_stepCount, x_outCount, x_traceCount, x_isInterfaceClass, x_chainOf, x_interfacesOf, x_ancestorsOf, x_homeOf, x_formOf, x_nameOf, x_lengthOf, x_opOf, x_classOf, x_numberOf, x_sourceMethod, x_sourceLine, x_callLine, x_ruleKind, x_ruleClasses, x_ruleNames, x_newNumber, x_familyOf, x_sightOf, x_frameRow, x_frameLine, x_frameHeld, x_outInts, x_traceMethod, x_traceLine⟩ := u; obtain ⟨y_classes, y_methods, y_rules, y_place, y_named, y_made, y_namedMethods, y_live, y_built, y_depth, y_steps, y_outs, y_ending, y_isInterface, y_isAbstract, y_parent, y_ancestors, y_own, y_many, y_home, y_name, y_length, y_op, y_first, y_second, y_ruleKind, y_ruleClasses, y_ruleNames, y_inlined, y_number, y_newName, y_family, y_vMethod, y_vLine, y_vHeld, y_put⟩ := v; have II := I; obtain ⟨C, M, R, t, o, rfl, rfl, rfl, rfl, rfl, rfl, rfl, rfl, rfl, rfl, rfl, rfl, rfl, rfl, rfl, rfl, rfl, rfl, rfl, rfl, rfl, ho, ht, hp, T, hb⟩ := (I : rl_p x_classCount x_methodCount x_ruleCount x_isBuilt x_faultPlace x_namedClasses x_madeClasses x_namedMethods x_liveMethods x_depth x_stepCount x_outCount x_traceCount x_isInterfaceClass x_chainOf x_interfacesOf x_ancestorsOf x_homeOf x_formOf x_nameOf x_lengthOf x_opOf x_classOf x_numberOf x_sourceMethod x_sourceLine x_callLine x_ruleKind x_ruleClasses x_ruleNames x_newNumber x_familyOf x_sightOf x_frameRow x_frameLine x_frameHeld x_outInts x_traceMethod x_traceLine y_classes y_methods y_rules y_place y_named y_made y_namedMethods y_live y_built y_depth y_steps y_outs y_ending y_isInterface y_isAbstract y_parent y_ancestors y_own y_many y_home y_name y_length y_op y_first y_second y_ruleKind y_ruleClasses y_ruleNames y_inlined y_number y_newName y_family y_vMethod y_vLine y_vHeld y_put)
  have h10 := T.1.1
  have h30 := T.2.2.1.1
  have p01 := lw_0 v2
  generalize lw_bz v2 = p1 at p01 ⊢
  unfold wpX_method
  dsimp only
  rcases Nat.eq_zero_or_pos C with c0 | c0
  · subst c0
    have e : nI 0 - 1 = -1 := by decide
    refine nm_r e (br_t (by decide) ?_)
    unfold wpY_method
    dsimp only
    exact nm_r e (br_t (by decide) ⟨rfl, II⟩)
  · obtain ⟨c, rfl⟩ : ∃ c, C = c + 1 := ⟨C - 1, by omega⟩
    have ic : vp_in (nI c) 10 := vp_in_nI (by omega) (by decide)
    refine nm_r (nI_pred c) (br_f (nI_pos (by omega)) ?_)
    have yb : (v1 < 0 ∨ nI 10 ≤ v1) → wpY_method (fun r' v' => r' = (-1) ∧ i_Rel (k + 5) (nI (c + 1), nI M, nI R, x_isBuilt, x_faultPlace, x_namedClasses, x_madeClasses, x_namedMethods, x_liveMethods, x_depth, x_stepCount, nI o, nI t, x_isInterfaceClass, x_chainOf, x_interfacesOf, x_ancestorsOf, x_homeOf, x_formOf, x_nameOf, x_lengthOf, x_opOf, x_classOf, x_numberOf, x_sourceMethod, x_sourceLine, x_callLine, x_ruleKind, x_ruleClasses, x_ruleNames, x_newNumber, x_familyOf, x_sightOf, x_frameRow, x_frameLine, x_frameHeld, x_outInts, x_traceMethod, x_traceLine) v') (nI (c + 1), nI M, nI R, x_faultPlace, y_named, y_made, y_namedMethods, y_live, x_isBuilt, nI t, x_stepCount, nI o, y_ending, x_isInterfaceClass, y_isAbstract, y_parent, x_ancestorsOf, x_interfacesOf, y_many, x_homeOf, y_name, y_length, y_op, y_first, y_second, x_ruleKind, x_ruleClasses, x_ruleNames, y_inlined, y_number, y_newName, y_family, y_vMethod, y_vLine, y_vHeld, x_outInts) v1 p1 := fun z => by
      unfold wpY_method
      dsimp only
      refine nm_r (nI_pred c) (br_f (nI_pos (by omega)) (yn_b (n := 10) (by omega) (fun j hj e => ?_) (fun _ => ⟨rfl, II⟩)))
      rw [e] at z
      exact absurd z (fun y => y.elim (nI_pos (by omega)) (nI_ge hj (by omega)))
    rcases pk_ix v1 (n := 10) (by decide) with z | z | ⟨n, hn, rfl⟩
    · exact br_t z (yb (Or.inl z))
    · exact br_f (ix_0 (by decide) z) (br_f (ix_l z) (yb (Or.inr z)))
    · refine br_f (nI_pos (by omega)) (br_t (nI_lt (b := 10) hn (by decide)) ?_)
      have yd : ∀ {P : Int32 → SY → Prop}, ((0 ≤ oI (dc_v M x_homeOf (fun m => decide (y_name m = nI n)) c) → P (-1) (nI (c + 1), nI M, nI R, x_faultPlace, y_named, y_made, y_namedMethods, y_live, x_isBuilt, nI t, x_stepCount, nI o, y_ending, x_isInterfaceClass, y_isAbstract, y_parent, x_ancestorsOf, x_interfacesOf, y_many, x_homeOf, y_name, y_length, y_op, y_first, y_second, x_ruleKind, x_ruleClasses, x_ruleNames, y_inlined, y_number, y_newName, y_family, y_vMethod, y_vLine, y_vHeld, x_outInts)) ∧ (¬ 0 ≤ oI (dc_v M x_homeOf (fun m => decide (y_name m = nI n)) c) → (vp_in (nI c) 10 ∧ ((x_isInterfaceClass c = 0 → wY_method_44 P (nI n) p1 (nI c) (nI (c + 1)) (nI M) (nI R) x_faultPlace y_named y_made y_namedMethods y_live x_isBuilt (nI t) x_stepCount (nI o) y_ending x_isInterfaceClass y_isAbstract y_parent x_ancestorsOf x_interfacesOf y_many x_homeOf y_name y_length y_op y_first y_second x_ruleKind x_ruleClasses x_ruleNames y_inlined y_number y_newName y_family y_vMethod y_vLine y_vHeld x_outInts) ∧ (¬ x_isInterfaceClass c = 0 → ((p1 = 0 → P (-1) (nI (c + 1), nI M, nI R, x_faultPlace, y_named, y_made, y_namedMethods, y_live, x_isBuilt, nI t, x_stepCount, nI o, y_ending, x_isInterfaceClass, y_isAbstract, y_parent, x_ancestorsOf, x_interfacesOf, y_many, x_homeOf, y_name, y_length, y_op, y_first, y_second, x_ruleKind, x_ruleClasses, x_ruleNames, y_inlined, y_number, y_newName, y_family, y_vMethod, y_vLine, y_vHeld, x_outInts)) ∧ (¬ p1 = 0 → wY_method_44 P (nI n) p1 (nI c) (nI (c + 1)) (nI M) (nI R) x_faultPlace y_named y_made y_namedMethods y_live x_isBuilt (nI t) x_stepCount (nI o) y_ending x_isInterfaceClass y_isAbstract y_parent x_ancestorsOf x_interfacesOf y_many x_homeOf y_name y_length y_op y_first y_second x_ruleKind x_ruleClasses x_ruleNames y_inlined y_number y_newName y_family y_vMethod y_vLine y_vHeld x_outInts)))))) ) →
          wpY_method P (nI (c + 1), nI M, nI R, x_faultPlace, y_named, y_made, y_namedMethods, y_live, x_isBuilt, nI t, x_stepCount, nI o, y_ending, x_isInterfaceClass, y_isAbstract, y_parent, x_ancestorsOf, x_interfacesOf, y_many, x_homeOf, y_name, y_length, y_op, y_first, y_second, x_ruleKind, x_ruleClasses, x_ruleNames, y_inlined, y_number, y_newName, y_family, y_vMethod, y_vLine, y_vHeld, x_outInts) (nI n) p1 := fun h => by
        unfold wpY_method
        dsimp only
        refine nm_r (nI_pred c) (br_f (nI_pos (by omega)) (yn_b (n := 10) (by omega) (fun _ _ _ => ?_) (fun z => absurd z (fun y => y.elim (nI_pos (by omega)) (nI_ge hn (by decide))))))
        refine yd_v h30 (by omega) (mh_10 T.2.2.1 h10) rfl ?_
        rw [nI_c (show c < 10000 by omega)]
        exact h
      refine xm_v (w := 0) h30 (by decide) (by omega) (mh_10 T.2.2.1 h10) (fun m => decide (y_name m = nI n)) (fun m hm => ?_) rfl ?_
      · obtain ⟨⟨q, _, e1, e2⟩, _, e3, _⟩ := T.2.2.2.1 m hm
        rw [Nat.mul_zero, Nat.zero_add, decide_eq_true_eq, e1, e2]
        refine ⟨fun z => ⟨?_, z⟩, fun z => z.2⟩
        rcases e3 with ⟨_, e⟩ | ⟨_, e⟩ <;> rw [e] <;> decide
      cases ed : dc_v M x_homeOf (fun m => decide (y_name m = nI n)) c with
      | some m =>
        have m30 := dc_b h30 ed
        refine br_f (oI_n (by omega)) (yd ?_)
        rw [ed]
        exact br_t (nI_pos' (by omega)) ⟨rfl, II⟩
      | none =>
        rw [nI_c (show c < 10000 by omega)]
        have go : (¬ x_isInterfaceClass c = 0 → ¬ p1 = 0) → (x_isInterfaceClass c = 0 ∨ ¬ x_isInterfaceClass c = 0) → wX_method_49 (fun r u' => wpY_method (fun r' v' => r' = r ∧ i_Rel (k + 5) u' v') (nI (c + 1), nI M, nI R, x_faultPlace, y_named, y_made, y_namedMethods, y_live, x_isBuilt, nI t, x_stepCount, nI o, y_ending, x_isInterfaceClass, y_isAbstract, y_parent, x_ancestorsOf, x_interfacesOf, y_many, x_homeOf, y_name, y_length, y_op, y_first, y_second, x_ruleKind, x_ruleClasses, x_ruleNames, y_inlined, y_number, y_newName, y_family, y_vMethod, y_vLine, y_vHeld, x_outInts) (nI n) p1) (nI n) p1 (nI c) (nI (c + 1)) (nI M) (nI R) x_isBuilt x_faultPlace x_namedClasses x_madeClasses x_namedMethods x_liveMethods x_depth x_stepCount (nI o) (nI t) x_isInterfaceClass x_chainOf x_interfacesOf x_ancestorsOf x_homeOf x_formOf x_nameOf x_lengthOf x_opOf x_classOf x_numberOf x_sourceMethod x_sourceLine x_callLine x_ruleKind x_ruleClasses x_ruleNames x_newNumber x_familyOf x_sightOf x_frameRow x_frameLine x_frameHeld x_outInts x_traceMethod x_traceLine := fun hi _ => by
          have yy : ∀ {P : Int32 → SY → Prop}, wY_method_44 P (nI n) p1 (nI c) (nI (c + 1)) (nI M) (nI R) x_faultPlace y_named y_made y_namedMethods y_live x_isBuilt (nI t) x_stepCount (nI o) y_ending x_isInterfaceClass y_isAbstract y_parent x_ancestorsOf x_interfacesOf y_many x_homeOf y_name y_length y_op y_first y_second x_ruleKind x_ruleClasses x_ruleNames y_inlined y_number y_newName y_family y_vMethod y_vLine y_vHeld x_outInts → wpY_method P (nI (c + 1), nI M, nI R, x_faultPlace, y_named, y_made, y_namedMethods, y_live, x_isBuilt, nI t, x_stepCount, nI o, y_ending, x_isInterfaceClass, y_isAbstract, y_parent, x_ancestorsOf, x_interfacesOf, y_many, x_homeOf, y_name, y_length, y_op, y_first, y_second, x_ruleKind, x_ruleClasses, x_ruleNames, y_inlined, y_number, y_newName, y_family, y_vMethod, y_vLine, y_vHeld, x_outInts) (nI n) p1 := fun h => by
            refine yd ?_
            rw [ed]
            exact br_f (by decide) ⟨ic, br_c (fun _ => h) (fun q => br_f (hi q) h)⟩
          unfold wX_method_49
          refine pk_eq M 30 (fun e30 => yy ?_) (fun e30 => ?_)
          · unfold wY_method_44
            exact br_t (by rw [e30]; rfl) ⟨rfl, II⟩
          · have iM : vp_in (nI M) 30 := vp_in_nI (by omega) (by decide)
            have iM6 : vp_in (nI M) 60 := vp_in_nI (by omega) (by decide)
            have ne : ¬ nI M = 30 := fun z => e30 ((nI_eq (a := M) (b := 30) (by omega) (by omega)).mp z)
            have fin : ∀ f, ((p1 = 0 ∧ f = 2) ∨ (¬ p1 = 0 ∧ f = 1)) → wX_method_100 (fun r u' => wpY_method (fun r' v' => r' = r ∧ i_Rel (k + 5) u' v') (nI (c + 1), nI M, nI R, x_faultPlace, y_named, y_made, y_namedMethods, y_live, x_isBuilt, nI t, x_stepCount, nI o, y_ending, x_isInterfaceClass, y_isAbstract, y_parent, x_ancestorsOf, x_interfacesOf, y_many, x_homeOf, y_name, y_length, y_op, y_first, y_second, x_ruleKind, x_ruleClasses, x_ruleNames, y_inlined, y_number, y_newName, y_family, y_vMethod, y_vLine, y_vHeld, x_outInts) (nI n) p1) (nI n) (nI M) f (nI M) (nI (c + 1)) (nI (M + 1)) (nI R) x_isBuilt x_faultPlace x_namedClasses x_madeClasses x_namedMethods x_liveMethods x_depth x_stepCount (nI o) (nI t) x_isInterfaceClass x_chainOf x_interfacesOf x_ancestorsOf (upd x_homeOf M (nI c)) x_formOf x_nameOf x_lengthOf x_opOf x_classOf x_numberOf x_sourceMethod x_sourceLine x_callLine x_ruleKind x_ruleClasses x_ruleNames x_newNumber x_familyOf x_sightOf x_frameRow x_frameLine x_frameHeld x_outInts x_traceMethod x_traceLine := fun f hf => by
              unfold wX_method_100
              rw [nI_c (show M < 10000 by omega)]
              refine ⟨iM6, nm_e ⟨iM6, nm_e ⟨iM6, nm_e (yy ?_)⟩⟩⟩
              unfold wY_method_44
              rw [nI_c (show M < 10000 by omega), p01]
              refine br_f ne (nm_r (nI_1 M) ⟨iM, nm_e ⟨iM, nm_e ⟨iM, nm_e ⟨iM, nm_e ⟨rfl, ?_⟩⟩⟩⟩⟩)
              exact rl_0 (C := c + 1) (M := M + 1) (k + 5) ho ht hp (tp_meth T (by omega) hn ed hf hi)
            rw [nI_c (show M < 10000 by omega)]
            exact nm_r (nI_1 M) ⟨iM, nm_e (br_c (fun q => fin 2 (Or.inl ⟨q, rfl⟩)) (fun q => fin 1 (Or.inr ⟨q, rfl⟩)))⟩
        refine br_t rfl ⟨ic, br_c (fun f => go (fun q => absurd f q) (Or.inl f)) (fun f => br_c (fun q => yd ?_) (fun q => go (fun _ => q) (Or.inr f)))⟩
        rw [ed]
        exact br_f (by decide) ⟨ic, br_f f (br_t q ⟨rfl, II⟩)⟩
end
section
/-! ===== code ===== -/
section
variable {x_classCount x_methodCount x_ruleCount x_isBuilt x_faultPlace x_namedClasses x_madeClasses x_namedMethods x_liveMethods x_depth x_stepCount x_outCount x_traceCount : Int32} {x_isInterfaceClass x_chainOf x_interfacesOf x_ancestorsOf x_homeOf x_formOf x_nameOf x_lengthOf x_opOf x_classOf x_numberOf x_sourceMethod x_sourceLine x_callLine x_ruleKind x_ruleClasses x_ruleNames x_newNumber x_familyOf x_sightOf x_frameRow x_frameLine x_frameHeld x_outInts x_traceMethod x_traceLine : Nat → Int32} {y_classes y_methods y_rules y_place y_named y_made y_namedMethods y_live y_built y_depth y_steps y_outs y_ending : Int32} {y_isInterface y_isAbstract y_parent y_ancestors y_own y_many y_home y_name y_length y_op y_first y_second y_ruleKind y_ruleClasses y_ruleNames y_inlined y_number y_newName y_family y_vMethod y_vLine y_vHeld y_put : Nat → Int32} {C M R : Nat}
theorem tp_code {m l q : Nat} {cc nn c n : Int32} (T : tp_p C (m + 1) R x_isInterfaceClass x_ancestorsOf x_interfacesOf x_chainOf y_parent y_many x_homeOf x_ruleKind x_ruleClasses x_ruleNames x_formOf x_nameOf x_lengthOf y_isAbstract y_name y_length x_opOf x_classOf x_numberOf x_sourceMethod x_sourceLine x_callLine y_op y_first y_second) (el : y_length m = nI l) (l6 : l < 6) (o6 : q < 6)
    (hc : (1 ≤ q ∧ q ≤ 4) → ∃ j, j < 10 ∧ cc = nI j ∧ c = nI j) (hc' : ¬ (1 ≤ q ∧ q ≤ 4) → cc = -1) (hn : (q = 2 ∨ q = 3) → ∃ j, j < 10 ∧ nn = nI j ∧ n = nI j) (hn0 : q = 0 → nn = n) (hn' : ¬ (q = 0 ∨ q = 2 ∨ q = 3) → nn = 0) :
    tp_p C (m + 1) R x_isInterfaceClass x_ancestorsOf x_interfacesOf x_chainOf y_parent y_many x_homeOf x_ruleKind x_ruleClasses x_ruleNames x_formOf x_nameOf (upd x_lengthOf m (nI (l + 1))) y_isAbstract y_name (upd y_length m (nI (l + 1)))
      (upd x_opOf (24 * m + l) (nI q)) (upd x_classOf (24 * m + l) cc) (upd x_numberOf (24 * m + l) nn) (upd x_sourceMethod (24 * m + l) (nI m)) (upd x_sourceLine (24 * m + l) (nI l)) (upd x_callLine (24 * m + l) (-1))
      (upd y_op (6 * m + l) (nI q)) (upd y_first (6 * m + l) c) (upd y_second (6 * m + l) n) := by
  have T0 := T
  obtain ⟨h1, h2, h3, h4, h5, h6, h7, h8⟩ := T
  have h30 := h3.1
  have hl : hq_t (y_length m) = l := by rw [el]; exact hq_e (by omega)
  refine ⟨h1, h2, h3, fun m' hm' => ?_, h5, fun m' k hm' hk => ?_, h7, h8⟩
  · obtain ⟨p1, p2, p3, p4⟩ := h4 m' hm'
    refine ⟨p1, ?_, p3, p4⟩
    by_cases w : m' = m
    · subst w; rw [pk_us, pk_us]; exact ⟨l + 1, by omega, rfl, rfl⟩
    · rw [pk_un w, pk_un w]; exact p2
  · have k6 : k < 6 := by
      by_cases w : m' = m
      · subst w; rw [pk_us, hq_e (by omega)] at hk; omega
      · rw [pk_un w] at hk
        have := (tp_len T0 hm').2.2
        omega
    by_cases w : m' = m ∧ k = l
    · obtain ⟨w1, w2⟩ := w
      subst w1 w2
      rw [pk_us, pk_us, pk_us, pk_us, pk_us, pk_us, pk_us, pk_us, pk_us]
      exact ⟨q, o6, rfl, rfl, hc, hc', hn, hn0, hn', rfl, rfl, rfl⟩
    · have a1 : 24 * m' + k ≠ 24 * m + l := by omega
      have a2 : 6 * m' + k ≠ 6 * m + l := by omega
      rw [pk_un a1, pk_un a1, pk_un a1, pk_un a1, pk_un a1, pk_un a1, pk_un a2, pk_un a2, pk_un a2]
      refine h6 m' k hm' ?_
      by_cases x : m' = m
      · subst x; rw [pk_us, hq_e (by omega)] at hk; omega
      · rw [pk_un x] at hk; exact hk
theorem xo_113 {post : Int32 → SX → Prop} {m l q : Nat} {c n x5 x6 cc nn : Int32} (m30 : m < 30) (l6 : l < 6) (el : x_lengthOf m = nI l) (h5 : (x5 = 0 ∧ cc = -1) ∨ (¬ x5 = 0 ∧ cc = c)) (h6 : (x6 = 0 ∧ ¬ nI q = 0 ∧ nn = 0) ∨ (x6 = 0 ∧ nI q = 0 ∧ nn = n) ∨ (¬ x6 = 0 ∧ nn = n))
    (hp : post 1 (x_classCount, x_methodCount, x_ruleCount, 0, x_faultPlace, x_namedClasses, x_madeClasses, x_namedMethods, x_liveMethods, x_depth, x_stepCount, x_outCount, x_traceCount, x_isInterfaceClass, x_chainOf, x_interfacesOf, x_ancestorsOf, x_homeOf, x_formOf, x_nameOf, upd x_lengthOf m (nI (l + 1)), upd x_opOf (24 * m + l) (nI q), upd x_classOf (24 * m + l) cc, upd x_numberOf (24 * m + l) nn, upd x_sourceMethod (24 * m + l) (nI m), upd x_sourceLine (24 * m + l) (nI l), upd x_callLine (24 * m + l) (-1), x_ruleKind, x_ruleClasses, x_ruleNames, x_newNumber, x_familyOf, x_sightOf, x_frameRow, x_frameLine, x_frameHeld, x_outInts, x_traceMethod, x_traceLine)) : wX_code_113 post (nI q) c n (nI m) x5 x6 x_classCount x_methodCount x_ruleCount x_isBuilt x_faultPlace x_namedClasses x_madeClasses x_namedMethods x_liveMethods x_depth x_stepCount x_outCount x_traceCount x_isInterfaceClass x_chainOf x_interfacesOf x_ancestorsOf x_homeOf x_formOf x_nameOf x_lengthOf x_opOf x_classOf x_numberOf x_sourceMethod x_sourceLine x_callLine x_ruleKind x_ruleClasses x_ruleNames x_newNumber x_familyOf x_sightOf x_frameRow x_frameLine x_frameHeld x_outInts x_traceMethod x_traceLine := by
  have im : vp_in (nI m) 60 := vp_in_nI (by omega) (by decide)
  have ia : vp_in (nI (24 * m + l)) 1440 := vp_in_nI (by omega) (by decide)
  have e173 : ∀ {cl}, cl = upd x_classOf (24 * m + l) cc → wX_code_173 post (nI m) (nI (24 * m + l)) nn (nI (24 * m + l)) x_classCount x_methodCount x_ruleCount x_isBuilt x_faultPlace x_namedClasses x_madeClasses x_namedMethods x_liveMethods x_depth x_stepCount x_outCount x_traceCount x_isInterfaceClass x_chainOf x_interfacesOf x_ancestorsOf x_homeOf x_formOf x_nameOf x_lengthOf (upd x_opOf (24 * m + l) (nI q)) cl x_numberOf x_sourceMethod x_sourceLine x_callLine x_ruleKind x_ruleClasses x_ruleNames x_newNumber x_familyOf x_sightOf x_frameRow x_frameLine x_frameHeld x_outInts x_traceMethod x_traceLine := fun e => by
    subst e
    unfold wX_code_173
    rw [nI_c (show m < 10000 by omega), nI_c (show 24 * m + l < 10000 by omega), el, nI_1]
    exact ⟨ia, nm_e ⟨ia, nm_e ⟨im, ia, nm_e ⟨ia, nm_e ⟨im, im, nm_e hp⟩⟩⟩⟩⟩
  have e152 : wX_code_152 post (nI q) n (nI m) x6 (nI (24 * m + l)) cc (nI (24 * m + l)) x_classCount x_methodCount x_ruleCount x_isBuilt x_faultPlace x_namedClasses x_madeClasses x_namedMethods x_liveMethods x_depth x_stepCount x_outCount x_traceCount x_isInterfaceClass x_chainOf x_interfacesOf x_ancestorsOf x_homeOf x_formOf x_nameOf x_lengthOf (upd x_opOf (24 * m + l) (nI q)) x_classOf x_numberOf x_sourceMethod x_sourceLine x_callLine x_ruleKind x_ruleClasses x_ruleNames x_newNumber x_familyOf x_sightOf x_frameRow x_frameLine x_frameHeld x_outInts x_traceMethod x_traceLine := by
    unfold wX_code_152
    rw [nI_c (show 24 * m + l < 10000 by omega)]
    refine ⟨ia, nm_e ?_⟩
    rcases h6 with ⟨a1, a2, a3⟩ | ⟨a1, a2, a3⟩ | ⟨a1, a3⟩
    · have := e173 rfl
      rw [a3] at this
      exact br_t a1 (br_f a2 this)
    · have := e173 rfl
      rw [a3] at this
      refine br_t a1 (br_t a2 ?_)
      unfold wX_code_168
      exact this
    · have := e173 rfl
      rw [a3] at this
      refine br_f a1 ?_
      unfold wX_code_168
      exact this
  unfold wX_code_113
  refine ⟨im, ?_⟩
  rw [nI_c (show m < 10000 by omega), el, nI_a24]
  refine nm_e ⟨ia, ?_⟩
  rw [nI_c (show 24 * m + l < 10000 by omega)]
  refine nm_e ?_
  rcases h5 with ⟨a1, a2⟩ | ⟨a1, a2⟩
  · rw [a2] at e152; exact br_t a1 e152
  · rw [a2] at e152; exact br_f a1 e152
end
theorem i_vc_code {k : Nat} {u : SX} {v : SY} (I : i_Rel k u v) (hk : k + 5 ≤ 2560) (v1 : Int32) (v2 : Int32) (v3 : Int32) : wpX_code (fun r u' => wpY_code (fun r' v' => r' = r ∧ i_Rel (k + 5) u' v') v v1 v2 v3) u v1 v2 v3 := by
  obtain ⟨x_classCount, x_methodCount, x_ruleCount, x_isBuilt, x_faultPlace, x_namedClasses, x_madeClasses, x_namedMethods, x_liveMethods, x_depth, x_stepCount, x_outCount, x_traceCount, x_isInterfaceClass, x_chainOf, x_interfacesOf, x_ancestorsOf, x_homeOf, x_formOf, x_nameOf, x_lengthOf, x_opOf, x_classOf, x_numberOf, x_sourceMethod, x_sourceLine, x_callLine, x_ruleKind, x_ruleClasses, x_ruleNames, x_newNumber, x_familyOf, x_sightOf, x_frameRow, x_frameLine, x_frameHeld, x_outInts, x_traceMethod, x_traceLine⟩ := u; obtain ⟨y_classes, y_methods, y_rules, y_place, y_named, y_made, y_namedMethods, y_live, y_built, y_depth, y_steps, y_outs, y_ending, y_isInterface, y_isAbstract, y_parent, y_ancestors, y_own, y_many, y_home, y_name, y_length, y_op, y_first, y_second, y_ruleKind, y_ruleClasses, y_ruleNames, y_inlined, y_number, y_newName, y_family, y_vMethod, y_vLine, y_vHeld, y_put⟩ := v; have II := I; obtain ⟨C, M, R, t, o, rfl, rfl, rfl, rfl, rfl, rfl, rfl, rfl, rfl, rfl, rfl, rfl, rfl, rfl, rfl, rfl, rfl, rfl, rfl, rfl, rfl, ho, ht, hp, T, hb⟩ := (I : rl_p x_classCount x_methodCount x_ruleCount x_isBuilt x_faultPlace x_namedClasses x_madeClasses x_namedMethods x_liveMethods x_depth x_stepCount x_outCount x_traceCount x_isInterfaceClass x_chainOf x_interfacesOf x_ancestorsOf x_homeOf x_formOf x_nameOf x_lengthOf x_opOf x_classOf x_numberOf x_sourceMethod x_sourceLine x_callLine x_ruleKind x_ruleClasses x_ruleNames x_newNumber x_familyOf x_sightOf x_frameRow x_frameLine x_frameHeld x_outInts x_traceMethod x_traceLine y_classes y_methods y_rules y_place y_named y_made y_namedMethods y_live y_built y_depth y_steps y_outs y_ending y_isInterface y_isAbstract y_parent y_ancestors y_own y_many y_home y_name y_length y_op y_first y_second y_ruleKind y_ruleClasses y_ruleNames y_inlined y_number y_newName y_family y_vMethod y_vLine y_vHeld y_put)
  have h10 := T.1.1
  have h30 := T.2.2.1.1
  unfold wpX_code
  dsimp only
  rcases Nat.eq_zero_or_pos M with c0 | c0
  · subst c0
    have e : nI 0 - 1 = -1 := by decide
    refine nm_r e (br_t (by decide) ?_)
    unfold wpY_code
    dsimp only
    exact nm_r e (br_t (by decide) ⟨rfl, II⟩)
  · obtain ⟨m, rfl⟩ : ∃ m, M = m + 1 := ⟨M - 1, by omega⟩
    have im : vp_in (nI m) 60 := vp_in_nI (by omega) (by decide)
    have im3 : vp_in (nI m) 30 := vp_in_nI (by omega) (by decide)
    obtain ⟨l1, l2, l6⟩ := tp_len T (m := m) (by omega)
    refine nm_r (nI_pred m) (br_f (nI_pos (by omega)) ⟨im, ?_⟩)
    rw [nI_c (show m < 10000 by omega), l1]
    have Y0 : ∀ {P : Int32 → SY → Prop}, ((y_isAbstract m = 0 → (y_length m = 6 → P 0 (nI C, nI (m + 1), nI R, x_faultPlace, y_named, y_made, y_namedMethods, y_live, x_isBuilt, nI t, x_stepCount, nI o, y_ending, x_isInterfaceClass, y_isAbstract, y_parent, x_ancestorsOf, x_interfacesOf, y_many, x_homeOf, y_name, y_length, y_op, y_first, y_second, x_ruleKind, x_ruleClasses, x_ruleNames, y_inlined, y_number, y_newName, y_family, y_vMethod, y_vLine, y_vHeld, x_outInts)) ∧ (¬ y_length m = 6 → wpY_in (fun r => (r = 0 → P 0 (nI C, nI (m + 1), nI R, x_faultPlace, y_named, y_made, y_namedMethods, y_live, x_isBuilt, nI t, x_stepCount, nI o, y_ending, x_isInterfaceClass, y_isAbstract, y_parent, x_ancestorsOf, x_interfacesOf, y_many, x_homeOf, y_name, y_length, y_op, y_first, y_second, x_ruleKind, x_ruleClasses, x_ruleNames, y_inlined, y_number, y_newName, y_family, y_vMethod, y_vLine, y_vHeld, x_outInts)) ∧ (¬ r = 0 → ((v1 < 1 → wY_code_63 P v1 v2 v3 (nI m) (nI C) (nI (m + 1)) (nI R) x_faultPlace y_named y_made y_namedMethods y_live x_isBuilt (nI t) x_stepCount (nI o) y_ending x_isInterfaceClass y_isAbstract y_parent x_ancestorsOf x_interfacesOf y_many x_homeOf y_name y_length y_op y_first y_second x_ruleKind x_ruleClasses x_ruleNames y_inlined y_number y_newName y_family y_vMethod y_vLine y_vHeld x_outInts) ∧ (¬ v1 < 1 → ((4 < v1 → wY_code_63 P v1 v2 v3 (nI m) (nI C) (nI (m + 1)) (nI R) x_faultPlace y_named y_made y_namedMethods y_live x_isBuilt (nI t) x_stepCount (nI o) y_ending x_isInterfaceClass y_isAbstract y_parent x_ancestorsOf x_interfacesOf y_many x_homeOf y_name y_length y_op y_first y_second x_ruleKind x_ruleClasses x_ruleNames y_inlined y_number y_newName y_family y_vMethod y_vLine y_vHeld x_outInts) ∧ (¬ 4 < v1 → wpY_in (fun r => (r = 0 → P 0 (nI C, nI (m + 1), nI R, x_faultPlace, y_named, y_made, y_namedMethods, y_live, x_isBuilt, nI t, x_stepCount, nI o, y_ending, x_isInterfaceClass, y_isAbstract, y_parent, x_ancestorsOf, x_interfacesOf, y_many, x_homeOf, y_name, y_length, y_op, y_first, y_second, x_ruleKind, x_ruleClasses, x_ruleNames, y_inlined, y_number, y_newName, y_family, y_vMethod, y_vLine, y_vHeld, x_outInts)) ∧ (¬ r = 0 → wY_code_63 P v1 v2 v3 (nI m) (nI C) (nI (m + 1)) (nI R) x_faultPlace y_named y_made y_namedMethods y_live x_isBuilt (nI t) x_stepCount (nI o) y_ending x_isInterfaceClass y_isAbstract y_parent x_ancestorsOf x_interfacesOf y_many x_homeOf y_name y_length y_op y_first y_second x_ruleKind x_ruleClasses x_ruleNames y_inlined y_number y_newName y_family y_vMethod y_vLine y_vHeld x_outInts)) v2 10)))))) v1 6)) ∧ (¬ y_isAbstract m = 0 → P 0 (nI C, nI (m + 1), nI R, x_faultPlace, y_named, y_made, y_namedMethods, y_live, x_isBuilt, nI t, x_stepCount, nI o, y_ending, x_isInterfaceClass, y_isAbstract, y_parent, x_ancestorsOf, x_interfacesOf, y_many, x_homeOf, y_name, y_length, y_op, y_first, y_second, x_ruleKind, x_ruleClasses, x_ruleNames, y_inlined, y_number, y_newName, y_family, y_vMethod, y_vLine, y_vHeld, x_outInts))) → wpY_code P (nI C, nI (m + 1), nI R, x_faultPlace, y_named, y_made, y_namedMethods, y_live, x_isBuilt, nI t, x_stepCount, nI o, y_ending, x_isInterfaceClass, y_isAbstract, y_parent, x_ancestorsOf, x_interfacesOf, y_many, x_homeOf, y_name, y_length, y_op, y_first, y_second, x_ruleKind, x_ruleClasses, x_ruleNames, y_inlined, y_number, y_newName, y_family, y_vMethod, y_vLine, y_vHeld, x_outInts) v1 v2 v3 := fun h => by
      unfold wpY_code
      dsimp only
      refine nm_r (nI_pred m) (br_f (nI_pos (by omega)) ⟨im3, ?_⟩)
      rw [nI_c (show m < 10000 by omega)]
      exact br_c (fun a => ⟨im3, h.1 a⟩) h.2
    rcases (T.2.2.2.1 m (by omega)).2.2.1 with ⟨a1, a2⟩ | ⟨a1, a2⟩
    · refine br_t a2 ⟨im, ?_⟩
      refine pk_eq (hq_t (y_length m)) 6 (fun e => Y0 ⟨fun _ => br_t (by rw [l2, e]; rfl) ⟨rfl, II⟩, fun z => absurd a1 z⟩) (fun e => ?_)
      have ne6 : ¬ y_length m = 6 := fun z => by
        rw [l2] at z
        exact e ((nI_eq (b := 6) (by omega) (by omega)).mp z)
      generalize el : hq_t (y_length m) = l at *
      have Y1 : ∀ {P : Int32 → SY → Prop}, wpY_in (fun r => (r = 0 → P 0 (nI C, nI (m + 1), nI R, x_faultPlace, y_named, y_made, y_namedMethods, y_live, x_isBuilt, nI t, x_stepCount, nI o, y_ending, x_isInterfaceClass, y_isAbstract, y_parent, x_ancestorsOf, x_interfacesOf, y_many, x_homeOf, y_name, y_length, y_op, y_first, y_second, x_ruleKind, x_ruleClasses, x_ruleNames, y_inlined, y_number, y_newName, y_family, y_vMethod, y_vLine, y_vHeld, x_outInts)) ∧ (¬ r = 0 → ((v1 < 1 → wY_code_63 P v1 v2 v3 (nI m) (nI C) (nI (m + 1)) (nI R) x_faultPlace y_named y_made y_namedMethods y_live x_isBuilt (nI t) x_stepCount (nI o) y_ending x_isInterfaceClass y_isAbstract y_parent x_ancestorsOf x_interfacesOf y_many x_homeOf y_name y_length y_op y_first y_second x_ruleKind x_ruleClasses x_ruleNames y_inlined y_number y_newName y_family y_vMethod y_vLine y_vHeld x_outInts) ∧ (¬ v1 < 1 → ((4 < v1 → wY_code_63 P v1 v2 v3 (nI m) (nI C) (nI (m + 1)) (nI R) x_faultPlace y_named y_made y_namedMethods y_live x_isBuilt (nI t) x_stepCount (nI o) y_ending x_isInterfaceClass y_isAbstract y_parent x_ancestorsOf x_interfacesOf y_many x_homeOf y_name y_length y_op y_first y_second x_ruleKind x_ruleClasses x_ruleNames y_inlined y_number y_newName y_family y_vMethod y_vLine y_vHeld x_outInts) ∧ (¬ 4 < v1 → wpY_in (fun r => (r = 0 → P 0 (nI C, nI (m + 1), nI R, x_faultPlace, y_named, y_made, y_namedMethods, y_live, x_isBuilt, nI t, x_stepCount, nI o, y_ending, x_isInterfaceClass, y_isAbstract, y_parent, x_ancestorsOf, x_interfacesOf, y_many, x_homeOf, y_name, y_length, y_op, y_first, y_second, x_ruleKind, x_ruleClasses, x_ruleNames, y_inlined, y_number, y_newName, y_family, y_vMethod, y_vLine, y_vHeld, x_outInts)) ∧ (¬ r = 0 → wY_code_63 P v1 v2 v3 (nI m) (nI C) (nI (m + 1)) (nI R) x_faultPlace y_named y_made y_namedMethods y_live x_isBuilt (nI t) x_stepCount (nI o) y_ending x_isInterfaceClass y_isAbstract y_parent x_ancestorsOf x_interfacesOf y_many x_homeOf y_name y_length y_op y_first y_second x_ruleKind x_ruleClasses x_ruleNames y_inlined y_number y_newName y_family y_vMethod y_vLine y_vHeld x_outInts)) v2 10)))))) v1 6 → wpY_code P (nI C, nI (m + 1), nI R, x_faultPlace, y_named, y_made, y_namedMethods, y_live, x_isBuilt, nI t, x_stepCount, nI o, y_ending, x_isInterfaceClass, y_isAbstract, y_parent, x_ancestorsOf, x_interfacesOf, y_many, x_homeOf, y_name, y_length, y_op, y_first, y_second, x_ruleKind, x_ruleClasses, x_ruleNames, y_inlined, y_number, y_newName, y_family, y_vMethod, y_vLine, y_vHeld, x_outInts) v1 v2 v3 := fun h => Y0 ⟨fun _ => br_f ne6 h, fun z => absurd a1 z⟩
      rcases pk_ix v1 (n := 6) (by decide) with z | z | ⟨q, hq, rfl⟩
      · exact br_t z (Y1 (yn_b (n := 6) (by decide) (fun j hj e => absurd z (by rw [e]; exact nI_pos (by omega))) (fun _ => ⟨rfl, II⟩)))
      · have z1 : ¬ v1 ≤ 5 := fun q => by
          rw [Int32.le_iff_toInt_le] at q z
          have e1 : (5 : Int32).toInt = 5 := by decide
          have e2 : (nI 6).toInt = 6 := by decide
          omega
        exact br_f (ix_0 (by decide) z) (br_f z1 (Y1 (yn_b (n := 6) (by decide) (fun j hj e => absurd z (by rw [e]; exact nI_ge hj (by decide))) (fun _ => ⟨rfl, II⟩))))
      · refine br_f (nI_pos (by omega)) (br_t (nI_le (b := 5) (by omega) (by decide)) ?_)
        have l6' : l < 6 := by omega
        have m30 : m < 30 := by omega
        have in6 : ∀ {A B : Prop}, B → wpY_in (fun r => (r = 0 → A) ∧ (¬ r = 0 → B)) (nI q) 6 := fun b => yn_b (n := 6) (by decide) (fun _ _ _ => b) (fun z => absurd z (fun y => y.elim (nI_pos (by omega)) (nI_ge hq (by decide))))
        have i180 : vp_in (nI (6 * m + l)) 180 := vp_in_nI (by omega) (by decide)
        have y84 : ∀ {P : Int32 → SY → Prop}, P 1 (nI C, nI (m + 1), nI R, x_faultPlace, y_named, y_made, y_namedMethods, y_live, 0, nI t, x_stepCount, nI o, y_ending, x_isInterfaceClass, y_isAbstract, y_parent, x_ancestorsOf, x_interfacesOf, y_many, x_homeOf, y_name, upd y_length m (nI (l + 1)), upd y_op (6 * m + l) (nI q), upd y_first (6 * m + l) v2, upd y_second (6 * m + l) v3, x_ruleKind, x_ruleClasses, x_ruleNames, y_inlined, y_number, y_newName, y_family, y_vMethod, y_vLine, y_vHeld, x_outInts) → wY_code_84 P (nI q) v2 v3 (nI m) (nI C) (nI (m + 1)) (nI R) x_faultPlace y_named y_made y_namedMethods y_live x_isBuilt (nI t) x_stepCount (nI o) y_ending x_isInterfaceClass y_isAbstract y_parent x_ancestorsOf x_interfacesOf y_many x_homeOf y_name y_length y_op y_first y_second x_ruleKind x_ruleClasses x_ruleNames y_inlined y_number y_newName y_family y_vMethod y_vLine y_vHeld x_outInts := fun h => by
          unfold wY_code_84
          rw [nI_c (show m < 10000 by omega), l2, nI_1, nI_a6]
          refine ⟨im3, im3, nm_e (nm_e ⟨i180, ?_⟩)⟩
          rw [nI_c (show 6 * m + l < 10000 by omega)]
          exact nm_e ⟨i180, nm_e ⟨i180, nm_e h⟩⟩
        have nb : ∀ x : Int32, (x < 0 ∨ nI 10 ≤ x) ∨ ∃ j, j < 10 ∧ x = nI j := fun x => by
          rcases pk_ix x (n := 10) (by decide) with z | z | z
          · exact Or.inl (Or.inl z)
          · exact Or.inl (Or.inr z)
          · exact Or.inr z
        have inA : ∀ {A B : Prop} {x : Int32}, (x < 0 ∨ nI 10 ≤ x) → A → wpY_in (fun r => (r = 0 → A) ∧ (¬ r = 0 → B)) x 10 := fun z a => yn_b (n := 10) (by decide) (fun j hj e => absurd z (by rw [e]; exact fun y => y.elim (nI_pos (by omega)) (nI_ge hj (by decide)))) (fun _ => a)
        have inB : ∀ {A B : Prop} {j : Nat}, j < 10 → B → wpY_in (fun r => (r = 0 → A) ∧ (¬ r = 0 → B)) (nI j) 10 := fun hj b => yn_b (n := 10) (by decide) (fun _ _ _ => b) (fun z => absurd z (fun y => y.elim (nI_pos (by omega)) (nI_ge hj (by decide))))
        have fin : ∀ {x5 x6 cc nn : Int32}, ((x5 = 0 ∧ cc = -1) ∨ (¬ x5 = 0 ∧ cc = v2)) → ((x6 = 0 ∧ ¬ nI q = 0 ∧ nn = 0) ∨ (x6 = 0 ∧ nI q = 0 ∧ nn = v3) ∨ (¬ x6 = 0 ∧ nn = v3)) →
            ((1 ≤ q ∧ q ≤ 4) → ∃ j, j < 10 ∧ cc = nI j ∧ v2 = nI j) → (¬ (1 ≤ q ∧ q ≤ 4) → cc = -1) → ((q = 2 ∨ q = 3) → ∃ j, j < 10 ∧ nn = nI j ∧ v3 = nI j) → (q = 0 → nn = v3) → (¬ (q = 0 ∨ q = 2 ∨ q = 3) → nn = 0) →
            ((wY_code_84 (fun r' v' => r' = 1 ∧ i_Rel (k + 5) (nI C, nI (m + 1), nI R, 0, x_faultPlace, x_namedClasses, x_madeClasses, x_namedMethods, x_liveMethods, x_depth, x_stepCount, nI o, nI t, x_isInterfaceClass, x_chainOf, x_interfacesOf, x_ancestorsOf, x_homeOf, x_formOf, x_nameOf, upd x_lengthOf m (nI (l + 1)), upd x_opOf (24 * m + l) (nI q), upd x_classOf (24 * m + l) cc, upd x_numberOf (24 * m + l) nn, upd x_sourceMethod (24 * m + l) (nI m), upd x_sourceLine (24 * m + l) (nI l), upd x_callLine (24 * m + l) (-1), x_ruleKind, x_ruleClasses, x_ruleNames, x_newNumber, x_familyOf, x_sightOf, x_frameRow, x_frameLine, x_frameHeld, x_outInts, x_traceMethod, x_traceLine) v') (nI q) v2 v3 (nI m) (nI C) (nI (m + 1)) (nI R) x_faultPlace y_named y_made y_namedMethods y_live x_isBuilt (nI t) x_stepCount (nI o) y_ending x_isInterfaceClass y_isAbstract y_parent x_ancestorsOf x_interfacesOf y_many x_homeOf y_name y_length y_op y_first y_second x_ruleKind x_ruleClasses x_ruleNames y_inlined y_number y_newName y_family y_vMethod y_vLine y_vHeld x_outInts) →
              wpY_code (fun r' v' => r' = 1 ∧ i_Rel (k + 5) (nI C, nI (m + 1), nI R, 0, x_faultPlace, x_namedClasses, x_madeClasses, x_namedMethods, x_liveMethods, x_depth, x_stepCount, nI o, nI t, x_isInterfaceClass, x_chainOf, x_interfacesOf, x_ancestorsOf, x_homeOf, x_formOf, x_nameOf, upd x_lengthOf m (nI (l + 1)), upd x_opOf (24 * m + l) (nI q), upd x_classOf (24 * m + l) cc, upd x_numberOf (24 * m + l) nn, upd x_sourceMethod (24 * m + l) (nI m), upd x_sourceLine (24 * m + l) (nI l), upd x_callLine (24 * m + l) (-1), x_ruleKind, x_ruleClasses, x_ruleNames, x_newNumber, x_familyOf, x_sightOf, x_frameRow, x_frameLine, x_frameHeld, x_outInts, x_traceMethod, x_traceLine) v') (nI C, nI (m + 1), nI R, x_faultPlace, y_named, y_made, y_namedMethods, y_live, x_isBuilt, nI t, x_stepCount, nI o, y_ending, x_isInterfaceClass, y_isAbstract, y_parent, x_ancestorsOf, x_interfacesOf, y_many, x_homeOf, y_name, y_length, y_op, y_first, y_second, x_ruleKind, x_ruleClasses, x_ruleNames, y_inlined, y_number, y_newName, y_family, y_vMethod, y_vLine, y_vHeld, x_outInts) (nI q) v2 v3) →
            wX_code_113 (fun r u' => wpY_code (fun r' v' => r' = r ∧ i_Rel (k + 5) u' v') (nI C, nI (m + 1), nI R, x_faultPlace, y_named, y_made, y_namedMethods, y_live, x_isBuilt, nI t, x_stepCount, nI o, y_ending, x_isInterfaceClass, y_isAbstract, y_parent, x_ancestorsOf, x_interfacesOf, y_many, x_homeOf, y_name, y_length, y_op, y_first, y_second, x_ruleKind, x_ruleClasses, x_ruleNames, y_inlined, y_number, y_newName, y_family, y_vMethod, y_vLine, y_vHeld, x_outInts) (nI q) v2 v3) (nI q) v2 v3 (nI m) x5 x6 (nI C) (nI (m + 1)) (nI R) x_isBuilt x_faultPlace x_namedClasses x_madeClasses x_namedMethods x_liveMethods x_depth x_stepCount (nI o) (nI t) x_isInterfaceClass x_chainOf x_interfacesOf x_ancestorsOf x_homeOf x_formOf x_nameOf x_lengthOf x_opOf x_classOf x_numberOf x_sourceMethod x_sourceLine x_callLine x_ruleKind x_ruleClasses x_ruleNames x_newNumber x_familyOf x_sightOf x_frameRow x_frameLine x_frameHeld x_outInts x_traceMethod x_traceLine := fun b1 b2 b3 b4 b5 b6 b7 yy =>
          xo_113 m30 l6' l1 b1 b2 (yy (y84 ⟨rfl, rl_0 (M := m + 1) (k + 5) ho ht hp (tp_code T l2 l6' hq b3 b4 b5 b6 b7)⟩))
        rcases (by omega : q = 0 ∨ q = 1 ∨ q = 2 ∨ q = 3 ∨ q = 4 ∨ q = 5) with w | w | w | w | w | w
        · subst w
          refine br_t (by decide) ?_
          unfold wX_code_61 wX_code_62
          refine br_f (by decide) (br_f (by decide) ?_)
          unfold wX_code_79
          refine br_t rfl ?_
          unfold wX_code_96
          refine br_t rfl (fin (Or.inl ⟨rfl, rfl⟩) (Or.inr (Or.inl ⟨rfl, rfl, rfl⟩)) (fun z => absurd z (by omega)) (fun _ => rfl) (fun z => absurd z (by omega)) (fun _ => rfl) (fun z => absurd (Or.inl rfl) z) (fun h => Y1 (in6 (br_t (by decide) ?_))))
          unfold wY_code_63
          exact br_f (by decide) (br_f (by decide) h)
        · subst w
          refine br_f (by decide) (br_f (by decide) ?_)
          unfold wX_code_62
          refine br_f (by decide) (br_f (by decide) ?_)
          unfold wX_code_79
          refine br_f (by decide) ?_
          rcases nb v2 with z | ⟨j, hj, ej⟩
          · have bad := Y1 (P := fun r' v' => r' = 0 ∧ i_Rel (k + 5) (nI C, nI (m + 1), nI R, x_isBuilt, x_faultPlace, x_namedClasses, x_madeClasses, x_namedMethods, x_liveMethods, x_depth, x_stepCount, nI o, nI t, x_isInterfaceClass, x_chainOf, x_interfacesOf, x_ancestorsOf, x_homeOf, x_formOf, x_nameOf, x_lengthOf, x_opOf, x_classOf, x_numberOf, x_sourceMethod, x_sourceLine, x_callLine, x_ruleKind, x_ruleClasses, x_ruleNames, x_newNumber, x_familyOf, x_sightOf, x_frameRow, x_frameLine, x_frameHeld, x_outInts, x_traceMethod, x_traceLine) v') (in6 (br_f (by decide) (br_f (by decide) (inA z ⟨rfl, II⟩))))
            rcases z with z | z
            · exact br_t z bad
            · exact br_f (ix_0 (by decide) z) (br_t z bad)
          · refine br_f (by rw [ej]; exact nI_pos (by omega)) (br_f (by rw [ej]; exact nI_ge (b := 10) hj (by decide)) ?_)
            unfold wX_code_96
            refine br_t rfl (fin (cc := v2) (Or.inr ⟨by decide, rfl⟩) (Or.inl ⟨rfl, by decide, rfl⟩) (fun _ => ⟨j, hj, ej, ej⟩) (fun z => absurd z (by omega)) (fun z => absurd z (by omega)) (fun z => absurd z (by omega)) (fun _ => rfl) (fun h => Y1 (in6 (br_f (by decide) (br_f (by decide) ?_)))))
            rw [ej] at h ⊢
            refine inB hj ?_
            unfold wY_code_63
            exact br_f (by decide) (br_f (by decide) h)
        · subst w
          refine br_f (by decide) (br_f (by decide) ?_)
          unfold wX_code_62
          refine br_t rfl ?_
          unfold wX_code_74 wX_code_79
          refine br_f (by decide) ?_
          rcases nb v2 with z | ⟨j, hj, ej⟩
          · have bad := Y1 (P := fun r' v' => r' = 0 ∧ i_Rel (k + 5) (nI C, nI (m + 1), nI R, x_isBuilt, x_faultPlace, x_namedClasses, x_madeClasses, x_namedMethods, x_liveMethods, x_depth, x_stepCount, nI o, nI t, x_isInterfaceClass, x_chainOf, x_interfacesOf, x_ancestorsOf, x_homeOf, x_formOf, x_nameOf, x_lengthOf, x_opOf, x_classOf, x_numberOf, x_sourceMethod, x_sourceLine, x_callLine, x_ruleKind, x_ruleClasses, x_ruleNames, x_newNumber, x_familyOf, x_sightOf, x_frameRow, x_frameLine, x_frameHeld, x_outInts, x_traceMethod, x_traceLine) v') (in6 (br_f (by decide) (br_f (by decide) (inA z ⟨rfl, II⟩))))
            rcases z with z | z
            · exact br_t z bad
            · exact br_f (ix_0 (by decide) z) (br_t z bad)
          · refine br_f (by rw [ej]; exact nI_pos (by omega)) (br_f (by rw [ej]; exact nI_ge (b := 10) hj (by decide)) ?_)
            unfold wX_code_96
            refine br_f (by decide) ?_
            rcases nb v3 with z | ⟨i, hi, ei⟩
            · have bad : wpY_code (fun r' v' => r' = 0 ∧ i_Rel (k + 5) (nI C, nI (m + 1), nI R, x_isBuilt, x_faultPlace, x_namedClasses, x_madeClasses, x_namedMethods, x_liveMethods, x_depth, x_stepCount, nI o, nI t, x_isInterfaceClass, x_chainOf, x_interfacesOf, x_ancestorsOf, x_homeOf, x_formOf, x_nameOf, x_lengthOf, x_opOf, x_classOf, x_numberOf, x_sourceMethod, x_sourceLine, x_callLine, x_ruleKind, x_ruleClasses, x_ruleNames, x_newNumber, x_familyOf, x_sightOf, x_frameRow, x_frameLine, x_frameHeld, x_outInts, x_traceMethod, x_traceLine) v') (nI C, nI (m + 1), nI R, x_faultPlace, y_named, y_made, y_namedMethods, y_live, x_isBuilt, nI t, x_stepCount, nI o, y_ending, x_isInterfaceClass, y_isAbstract, y_parent, x_ancestorsOf, x_interfacesOf, y_many, x_homeOf, y_name, y_length, y_op, y_first, y_second, x_ruleKind, x_ruleClasses, x_ruleNames, y_inlined, y_number, y_newName, y_family, y_vMethod, y_vLine, y_vHeld, x_outInts) (nI 2) v2 v3 := by
                refine Y1 (in6 (br_f (by decide) (br_f (by decide) ?_)))
                rw [ej]
                refine inB hj ?_
                unfold wY_code_63
                refine br_t rfl ?_
                unfold wY_code_73
                exact inA z ⟨rfl, II⟩
              rcases z with z | z
              · exact br_t z bad
              · exact br_f (ix_0 (by decide) z) (br_f (ix_l z) bad)
            · refine br_f (by rw [ei]; exact nI_pos (by omega)) (br_t (by rw [ei]; exact nI_lt (b := 10) hi (by decide)) ?_)
              refine fin (cc := v2) (nn := v3) (Or.inr ⟨by decide, rfl⟩) (Or.inr (Or.inr ⟨by decide, rfl⟩)) (fun _ => ⟨j, hj, ej, ej⟩) (fun z => absurd z (by omega)) (fun _ => ⟨i, hi, ei, ei⟩) (fun z => absurd z (by omega)) (fun z => absurd z (by omega)) (fun h => Y1 (in6 (br_f (by decide) (br_f (by decide) ?_))))
              rw [ej, ei] at h ⊢
              refine inB hj ?_
              unfold wY_code_63
              refine br_t rfl ?_
              unfold wY_code_73
              exact inB hi h
        · subst w
          refine br_f (by decide) (br_f (by decide) ?_)
          unfold wX_code_62
          refine br_f (by decide) (br_t rfl ?_)
          unfold wX_code_74 wX_code_79
          refine br_f (by decide) ?_
          rcases nb v2 with z | ⟨j, hj, ej⟩
          · have bad := Y1 (P := fun r' v' => r' = 0 ∧ i_Rel (k + 5) (nI C, nI (m + 1), nI R, x_isBuilt, x_faultPlace, x_namedClasses, x_madeClasses, x_namedMethods, x_liveMethods, x_depth, x_stepCount, nI o, nI t, x_isInterfaceClass, x_chainOf, x_interfacesOf, x_ancestorsOf, x_homeOf, x_formOf, x_nameOf, x_lengthOf, x_opOf, x_classOf, x_numberOf, x_sourceMethod, x_sourceLine, x_callLine, x_ruleKind, x_ruleClasses, x_ruleNames, x_newNumber, x_familyOf, x_sightOf, x_frameRow, x_frameLine, x_frameHeld, x_outInts, x_traceMethod, x_traceLine) v') (in6 (br_f (by decide) (br_f (by decide) (inA z ⟨rfl, II⟩))))
            rcases z with z | z
            · exact br_t z bad
            · exact br_f (ix_0 (by decide) z) (br_t z bad)
          · refine br_f (by rw [ej]; exact nI_pos (by omega)) (br_f (by rw [ej]; exact nI_ge (b := 10) hj (by decide)) ?_)
            unfold wX_code_96
            refine br_f (by decide) ?_
            rcases nb v3 with z | ⟨i, hi, ei⟩
            · have bad : wpY_code (fun r' v' => r' = 0 ∧ i_Rel (k + 5) (nI C, nI (m + 1), nI R, x_isBuilt, x_faultPlace, x_namedClasses, x_madeClasses, x_namedMethods, x_liveMethods, x_depth, x_stepCount, nI o, nI t, x_isInterfaceClass, x_chainOf, x_interfacesOf, x_ancestorsOf, x_homeOf, x_formOf, x_nameOf, x_lengthOf, x_opOf, x_classOf, x_numberOf, x_sourceMethod, x_sourceLine, x_callLine, x_ruleKind, x_ruleClasses, x_ruleNames, x_newNumber, x_familyOf, x_sightOf, x_frameRow, x_frameLine, x_frameHeld, x_outInts, x_traceMethod, x_traceLine) v') (nI C, nI (m + 1), nI R, x_faultPlace, y_named, y_made, y_namedMethods, y_live, x_isBuilt, nI t, x_stepCount, nI o, y_ending, x_isInterfaceClass, y_isAbstract, y_parent, x_ancestorsOf, x_interfacesOf, y_many, x_homeOf, y_name, y_length, y_op, y_first, y_second, x_ruleKind, x_ruleClasses, x_ruleNames, y_inlined, y_number, y_newName, y_family, y_vMethod, y_vLine, y_vHeld, x_outInts) (nI 3) v2 v3 := by
                refine Y1 (in6 (br_f (by decide) (br_f (by decide) ?_)))
                rw [ej]
                refine inB hj ?_
                unfold wY_code_63
                refine br_f (by decide) (br_t rfl ?_)
                unfold wY_code_73
                exact inA z ⟨rfl, II⟩
              rcases z with z | z
              · exact br_t z bad
              · exact br_f (ix_0 (by decide) z) (br_f (ix_l z) bad)
            · refine br_f (by rw [ei]; exact nI_pos (by omega)) (br_t (by rw [ei]; exact nI_lt (b := 10) hi (by decide)) ?_)
              refine fin (cc := v2) (nn := v3) (Or.inr ⟨by decide, rfl⟩) (Or.inr (Or.inr ⟨by decide, rfl⟩)) (fun _ => ⟨j, hj, ej, ej⟩) (fun z => absurd z (by omega)) (fun _ => ⟨i, hi, ei, ei⟩) (fun z => absurd z (by omega)) (fun z => absurd z (by omega)) (fun h => Y1 (in6 (br_f (by decide) (br_f (by decide) ?_))))
              rw [ej, ei] at h ⊢
              refine inB hj ?_
              unfold wY_code_63
              refine br_f (by decide) (br_t rfl ?_)
              unfold wY_code_73
              exact inB hi h
        · subst w
          refine br_f (by decide) (br_f (by decide) ?_)
          unfold wX_code_62
          refine br_f (by decide) (br_f (by decide) ?_)
          unfold wX_code_79
          refine br_f (by decide) ?_
          rcases nb v2 with z | ⟨j, hj, ej⟩
          · have bad := Y1 (P := fun r' v' => r' = 0 ∧ i_Rel (k + 5) (nI C, nI (m + 1), nI R, x_isBuilt, x_faultPlace, x_namedClasses, x_madeClasses, x_namedMethods, x_liveMethods, x_depth, x_stepCount, nI o, nI t, x_isInterfaceClass, x_chainOf, x_interfacesOf, x_ancestorsOf, x_homeOf, x_formOf, x_nameOf, x_lengthOf, x_opOf, x_classOf, x_numberOf, x_sourceMethod, x_sourceLine, x_callLine, x_ruleKind, x_ruleClasses, x_ruleNames, x_newNumber, x_familyOf, x_sightOf, x_frameRow, x_frameLine, x_frameHeld, x_outInts, x_traceMethod, x_traceLine) v') (in6 (br_f (by decide) (br_f (by decide) (inA z ⟨rfl, II⟩))))
            rcases z with z | z
            · exact br_t z bad
            · exact br_f (ix_0 (by decide) z) (br_t z bad)
          · refine br_f (by rw [ej]; exact nI_pos (by omega)) (br_f (by rw [ej]; exact nI_ge (b := 10) hj (by decide)) ?_)
            unfold wX_code_96
            refine br_t rfl (fin (cc := v2) (Or.inr ⟨by decide, rfl⟩) (Or.inl ⟨rfl, by decide, rfl⟩) (fun _ => ⟨j, hj, ej, ej⟩) (fun z => absurd z (by omega)) (fun z => absurd z (by omega)) (fun z => absurd z (by omega)) (fun _ => rfl) (fun h => Y1 (in6 (br_f (by decide) (br_f (by decide) ?_)))))
            rw [ej] at h ⊢
            refine inB hj ?_
            unfold wY_code_63
            exact br_f (by decide) (br_f (by decide) h)
        · subst w
          refine br_f (by decide) (br_t (by decide) ?_)
          unfold wX_code_61 wX_code_62
          refine br_f (by decide) (br_f (by decide) ?_)
          unfold wX_code_79
          refine br_t rfl ?_
          unfold wX_code_96
          refine br_t rfl (fin (Or.inl ⟨rfl, rfl⟩) (Or.inl ⟨rfl, by decide, rfl⟩) (fun z => absurd z (by omega)) (fun _ => rfl) (fun z => absurd z (by omega)) (fun z => absurd z (by omega)) (fun _ => rfl) (fun h => Y1 (in6 (br_f (by decide) (br_t (by decide) ?_)))))
          unfold wY_code_63
          exact br_f (by decide) (br_f (by decide) h)
    · exact br_f (by rw [a2]; decide) (Y0 ⟨fun z => absurd z a1, fun _ => ⟨rfl, II⟩⟩)
end
section
/-! ===== build, state, stays ===== -/
theorem i_vc_build {k : Nat} {u : SX} {v : SY} (I : i_Rel k u v) (hk : k + 5 ≤ 2560) : wpX_build (fun r u' => wpY_build (fun r' v' => r' = r ∧ i_Rel (k + 5) u' v') v) u := by
  obtain ⟨x_classCount, x_methodCount, x_ruleCount, x_isBuilt, x_faultPlace, x_namedClasses, x_madeClasses, x_namedMethods, x_liveMethods, x_depth, x_stepCount, x_outCount, x_traceCount, x_isInterfaceClass, x_chainOf, x_interfacesOf, x_ancestorsOf, x_homeOf, x_formOf, x_nameOf, x_lengthOf, x_opOf, x_classOf, x_numberOf, x_sourceMethod, x_sourceLine, x_callLine, x_ruleKind, x_ruleClasses, x_ruleNames, x_newNumber, x_familyOf, x_sightOf, x_frameRow, x_frameLine, x_frameHeld, x_outInts, x_traceMethod, x_traceLine⟩ := u; obtain ⟨y_classes, y_methods, y_rules, y_place, y_named, y_made, y_namedMethods, y_live, y_built, y_depth, y_steps, y_outs, y_ending, y_isInterface, y_isAbstract, y_parent, y_ancestors, y_own, y_many, y_home, y_name, y_length, y_op, y_first, y_second, y_ruleKind, y_ruleClasses, y_ruleNames, y_inlined, y_number, y_newName, y_family, y_vMethod, y_vLine, y_vHeld, y_put⟩ := v; have II := I; obtain ⟨C, M, R, t, o, rfl, rfl, rfl, rfl, rfl, rfl, rfl, rfl, rfl, rfl, rfl, rfl, rfl, rfl, rfl, rfl, rfl, rfl, rfl, rfl, rfl, ho, ht, hp, T, hb⟩ := (I : rl_p x_classCount x_methodCount x_ruleCount x_isBuilt x_faultPlace x_namedClasses x_madeClasses x_namedMethods x_liveMethods x_depth x_stepCount x_outCount x_traceCount x_isInterfaceClass x_chainOf x_interfacesOf x_ancestorsOf x_homeOf x_formOf x_nameOf x_lengthOf x_opOf x_classOf x_numberOf x_sourceMethod x_sourceLine x_callLine x_ruleKind x_ruleClasses x_ruleNames x_newNumber x_familyOf x_sightOf x_frameRow x_frameLine x_frameHeld x_outInts x_traceMethod x_traceLine y_classes y_methods y_rules y_place y_named y_made y_namedMethods y_live y_built y_depth y_steps y_outs y_ending y_isInterface y_isAbstract y_parent y_ancestors y_own y_many y_home y_name y_length y_op y_first y_second y_ruleKind y_ruleClasses y_ruleNames y_inlined y_number y_newName y_family y_vMethod y_vLine y_vHeld y_put)
  refine xB_v T rfl rfl rfl (fun q NF => ?_) (fun NF a1 b1 c1 d1 m1 m2 inl hI a b c d n1 n2 kept F nm L O P N S U A nu fa sg T' xb => ?_)
  · refine yB_v (a1 := 0) (b1 := 0) (c1 := 0) (d1 := 0) (a := 0) (b := 0) (c := 0) (d := 0) (inl := fun _ => 0) T rfl rfl rfl (fun q' NF' => ?_) (fun n => absurd (NF.symm.trans n) (by simp))
    have : q = q' := by simpa using NF.symm.trans NF'
    subst this
    exact ⟨rfl, rl_0 (k + 5) ho ht hp T⟩
  · refine yB_v (a1 := a1) (b1 := b1) (c1 := c1) (d1 := d1) (a := a) (b := b) (c := c) (d := d) (inl := inl) T rfl rfl rfl (fun q' NF' => absurd (NF.symm.trans NF') (by simp)) (fun _ => ⟨m1, m2, hI, n1, n2, fun inlY nu' fa' nn' kept' same k1 k2 k3 k4 => ⟨rfl, ?_⟩⟩)
    have lf : ∀ m, bt d m = true → y_isAbstract m = 0 := fun m z => n1.1 (fun q i => q = 3 → y_isAbstract i = 0) ⟨fun r hr h0 => ⟨fun c hc h z => absurd z (by decide), fun m hm h1 h2 => ⟨fun z => absurd z (by decide), fun h _ => h⟩⟩, fun m hm h z => absurd z (by decide), fun c hc h i hi z => absurd z (by decide),
      fun m hm h k hk => ⟨fun _ => ⟨fun z => absurd z (by decide), fun z => absurd z (by decide)⟩, fun _ z => absurd z (by decide), fun _ _ => ⟨fun z => absurd z (by decide), fun f ef => ⟨fun z => absurd z (by decide), fun h _ => h⟩⟩, fun _ => ⟨fun z => absurd z (by decide), fun _ => ⟨fun f ef z => absurd z (by decide), fun e he h1 h2 g eg => ⟨fun z => absurd z (by decide), fun h _ => h⟩⟩⟩⟩⟩ 3 m z rfl
    refine rl_i (x_isBuilt := 1) (k + 5) ho ht hp T' (fun _ => ⟨⟨rfl, rfl, rfl, rfl⟩, b1, d1, kept, inl, NF, hI, same, ⟨n1.2.1, n1.2.2.1, n1.2.2.2.1, n1.2.2.2.2.1, n1.2.2.2.2.2.1, n1.2.2.2.2.2.2, lf⟩, xb, fun j hj => ?_, k3, k4⟩)
    rw [k2 j hj, ke_u k1 xb.2.2.2.2.2]
theorem xc_n {post : Int32 → Prop} {s : Int32} (hp : post (nI (pc_n (bt s) 30))) : wpX_countBits post s := by
  have lo : ∀ q i f, i + q = 30 → q < f → wX_countBits_4 post s f (nI (pc_n (bt s) i)) (nI i) := by
    intro q
    induction q with
    | zero =>
      intro i f e hf
      obtain ⟨f, rfl⟩ : ∃ q, f = q + 1 := ⟨f - 1, by omega⟩
      have e : i = 30 := by omega
      subst e
      rw [wX_countBits_4]
      exact br_t (nI_le (a := 30) (Nat.le_refl _) (by decide)) hp
    | succ q ih =>
      intro i f e hf
      obtain ⟨f, rfl⟩ : ∃ q, f = q + 1 := ⟨f - 1, by omega⟩
      have nx := ih (i + 1) f (by omega) (by omega)
      rw [wX_countBits_4]
      refine br_f (nI_ge (b := 30) (by omega) (by decide)) (nm_r ?_ (nm_r (nI_1 i) nx))
      rw [bq_sh s (by omega)]
      have e1 : pc_n (bt s) (i + 1) = pc_n (bt s) i + (if bt s i = true then 1 else 0) := rfl
      rw [e1]
      by_cases b : bt s i = true
      · rw [if_pos b, if_pos b, nI_1]
      · rw [if_neg b, if_neg b, Int32.add_zero]; rfl
  unfold wpX_countBits
  exact ⟨31, lo 30 0 31 (by omega) (by omega)⟩
section
variable {y_classes y_methods y_rules y_place y_named y_made y_namedMethods y_live y_built y_depth y_steps y_outs y_ending : Int32} {y_isInterface y_isAbstract y_parent y_ancestors y_own y_many y_home y_name y_length y_op y_first y_second y_ruleKind y_ruleClasses y_ruleNames y_inlined y_number y_newName y_family y_vMethod y_vLine y_vHeld y_put : Nat → Int32}
theorem yc_n {post : Int32 → Prop} {s : Int32} (hp : post (nI (pc_n (bt s) 30))) : ∃ n, wY_state_87 post s y_classes y_methods y_rules y_place y_named y_made y_namedMethods y_live y_built y_depth y_steps y_outs y_ending y_isInterface y_isAbstract y_parent y_ancestors y_own y_many y_home y_name y_length y_op y_first y_second y_ruleKind y_ruleClasses y_ruleNames y_inlined y_number y_newName y_family y_vMethod y_vLine y_vHeld y_put n 0 0 := by
  have lo : ∀ q i f, i + q = 30 → q < f → wY_state_87 post s y_classes y_methods y_rules y_place y_named y_made y_namedMethods y_live y_built y_depth y_steps y_outs y_ending y_isInterface y_isAbstract y_parent y_ancestors y_own y_many y_home y_name y_length y_op y_first y_second y_ruleKind y_ruleClasses y_ruleNames y_inlined y_number y_newName y_family y_vMethod y_vLine y_vHeld y_put f (nI (pc_n (bt s) i)) (nI i) := by
    intro q
    induction q with
    | zero =>
      intro i f e hf
      obtain ⟨f, rfl⟩ : ∃ q, f = q + 1 := ⟨f - 1, by omega⟩
      have e : i = 30 := by omega
      subst e
      rw [wY_state_87]
      exact br_t (nI_le (a := 30) (Nat.le_refl _) (by decide)) hp
    | succ q ih =>
      intro i f e hf
      obtain ⟨f, rfl⟩ : ∃ q, f = q + 1 := ⟨f - 1, by omega⟩
      have nx := ih (i + 1) f (by omega) (by omega)
      have e1 : pc_n (bt s) (i + 1) = pc_n (bt s) i + (if bt s i = true then 1 else 0) := rfl
      rw [e1] at nx
      rw [wY_state_87]
      refine br_f (nI_ge (b := 30) (by omega) (by decide)) (yb_b (by omega) (fun b => ?_) (fun b => ?_))
      · rw [if_pos b] at nx
        exact nm_r (nI_1 _) (nm_r (nI_1 i) nx)
      · rw [if_neg b] at nx
        exact nm_r (nI_1 i) nx
  exact ⟨31, lo 30 0 31 (by omega) (by omega)⟩
end
theorem or_le {a b : Int32} (h : ss_le b a) : a ||| b = a := ss_as (ss_ou (ss_rf a) h) (ss_ol a b)
theorem i_vc_state {k : Nat} {u : SX} {v : SY} (I : i_Rel k u v) (hk : k + 5 ≤ 2560) (v1 : Int32) : wpX_state (fun r => wpY_state (fun r' => r' = r ∧ i_Rel (k + 5) u v) v v1) u v1 := by
  obtain ⟨x_classCount, x_methodCount, x_ruleCount, x_isBuilt, x_faultPlace, x_namedClasses, x_madeClasses, x_namedMethods, x_liveMethods, x_depth, x_stepCount, x_outCount, x_traceCount, x_isInterfaceClass, x_chainOf, x_interfacesOf, x_ancestorsOf, x_homeOf, x_formOf, x_nameOf, x_lengthOf, x_opOf, x_classOf, x_numberOf, x_sourceMethod, x_sourceLine, x_callLine, x_ruleKind, x_ruleClasses, x_ruleNames, x_newNumber, x_familyOf, x_sightOf, x_frameRow, x_frameLine, x_frameHeld, x_outInts, x_traceMethod, x_traceLine⟩ := u; obtain ⟨y_classes, y_methods, y_rules, y_place, y_named, y_made, y_namedMethods, y_live, y_built, y_depth, y_steps, y_outs, y_ending, y_isInterface, y_isAbstract, y_parent, y_ancestors, y_own, y_many, y_home, y_name, y_length, y_op, y_first, y_second, y_ruleKind, y_ruleClasses, y_ruleNames, y_inlined, y_number, y_newName, y_family, y_vMethod, y_vLine, y_vHeld, y_put⟩ := v; have II := I; obtain ⟨C, M, R, t, o, rfl, rfl, rfl, rfl, rfl, rfl, rfl, rfl, rfl, rfl, rfl, rfl, rfl, rfl, rfl, rfl, rfl, rfl, rfl, rfl, rfl, ho, ht, hp, T, hb⟩ := (I : rl_p x_classCount x_methodCount x_ruleCount x_isBuilt x_faultPlace x_namedClasses x_madeClasses x_namedMethods x_liveMethods x_depth x_stepCount x_outCount x_traceCount x_isInterfaceClass x_chainOf x_interfacesOf x_ancestorsOf x_homeOf x_formOf x_nameOf x_lengthOf x_opOf x_classOf x_numberOf x_sourceMethod x_sourceLine x_callLine x_ruleKind x_ruleClasses x_ruleNames x_newNumber x_familyOf x_sightOf x_frameRow x_frameLine x_frameHeld x_outInts x_traceMethod x_traceLine y_classes y_methods y_rules y_place y_named y_made y_namedMethods y_live y_built y_depth y_steps y_outs y_ending y_isInterface y_isAbstract y_parent y_ancestors y_own y_many y_home y_name y_length y_op y_first y_second y_ruleKind y_ruleClasses y_ruleNames y_inlined y_number y_newName y_family y_vMethod y_vLine y_vHeld y_put)
  unfold wpX_state wpY_state
  dsimp only
  rcases pk_ix v1 (n := 5) (by decide) with z | z | ⟨j, hj, rfl⟩
  · exact br_t z (br_t z ⟨rfl, II⟩)
  · have z4 : 4 < v1 := by
      rw [Int32.le_iff_toInt_le] at z
      rw [Int32.lt_iff_toInt_lt]
      have e1 : (4 : Int32).toInt = 4 := by decide
      have e2 : (nI 5).toInt = 5 := by decide
      omega
    exact br_f (ix_0 (by decide) z) (br_t z4 (br_f (ix_0 (by decide) z) (br_t z4 ⟨rfl, II⟩)))
  · rcases (by omega : j = 0 ∨ j = 1 ∨ j = 2 ∨ j = 3 ∨ j = 4) with w | w | w | w | w
    · subst w
      exact br_f (by decide) (br_f (by decide) (br_t rfl (br_f (by decide) (br_f (by decide) (br_t rfl ⟨rfl, II⟩)))))
    · subst w
      exact br_f (by decide) (br_f (by decide) (br_f (by decide) (br_t rfl (br_f (by decide) (br_f (by decide) (br_f (by decide) (br_t rfl ⟨rfl, II⟩)))))))
    · subst w
      exact br_f (by decide) (br_f (by decide) (br_f (by decide) (br_f (by decide) (br_t rfl (br_f (by decide) (br_f (by decide) (br_f (by decide) (br_f (by decide) (br_t rfl ⟨rfl, II⟩)))))))))
    · subst w
      refine br_f (by decide) (br_f (by decide) (br_f (by decide) (br_f (by decide) (br_f (by decide) (br_t rfl ?_)))))
      refine br_c (fun b => br_f (by decide) (br_f (by decide) (br_f (by decide) (br_f (by decide) (br_f (by decide) (br_t rfl ?_)))))) (fun b => ?_)
      · unfold wY_state_51
        exact br_t b ⟨rfl, II⟩
      · obtain ⟨⟨e1, _⟩, _⟩ := hb b
        refine xc_n (br_f (by decide) (br_f (by decide) (br_f (by decide) (br_f (by decide) (br_f (by decide) (br_t rfl ?_))))))
        unfold wY_state_51
        refine br_f b (br_t rfl (yc_n ⟨?_, II⟩))
        rw [e1]
    · subst w
      refine br_f (by decide) (br_f (by decide) (br_f (by decide) (br_f (by decide) (br_f (by decide) (br_f (by decide) (br_t rfl ?_))))))
      refine br_c (fun b => br_f (by decide) (br_f (by decide) (br_f (by decide) (br_f (by decide) (br_f (by decide) (br_f (by decide) (br_t rfl ?_))))))) (fun b => ?_)
      · unfold wY_state_51
        exact br_t b ⟨rfl, II⟩
      · obtain ⟨⟨_, _, e1, e2⟩, b1, d1, kept, inl, _, _, _, ml, _⟩ := hb b
        refine xc_n (br_f (by decide) (br_f (by decide) (br_f (by decide) (br_f (by decide) (br_f (by decide) (br_f (by decide) (br_t rfl ?_)))))))
        unfold wY_state_51
        refine br_f b (br_f (by decide) (nm_e (yc_n ⟨?_, II⟩)))
        rw [← e1, ← e2, or_le ml.1]
end
section
/-! ===== what the new program holds: stays, line ===== -/
theorem in_bl {C M : Nat} {anc chn hom yabs yname ylen yop yfi yse inl : Nat → Int32} {D Lv : Int32} (h : ∀ m k, m < M → k < 6 → il_p C M anc chn hom yabs yname ylen yop yfi yse D Lv m k (inl (6 * m + k))) {m k : Nat} (hm : m < M) (hk : k < 6) :
    (inl (6 * m + k) = -1) ∨ ∃ t, t < M ∧ inl (6 * m + k) = nI t ∧ hq_t (ylen t) ≤ 3 ∧ (∀ i, i < hq_t (ylen t) → yop (6 * t + i) = 0 ∨ yop (6 * t + i) = 5) ∧ (yop (6 * m + k) = 2 ∨ yop (6 * m + k) = 3) := by
  rcases h m k hm hk with ⟨e, _⟩ | ⟨t, e, it⟩
  · exact Or.inl e
  · refine Or.inr ⟨t, it.2.2.1, e, it.2.2.2.2.2.1, it.2.2.2.2.2.2.1, ?_⟩
    rcases it.2.2.2.2.2.2.2 with z | z
    · exact Or.inr z.1
    · exact Or.inl z.1
section
variable {y_classes y_methods y_rules y_place y_named y_made y_namedMethods y_live y_built y_depth y_steps y_outs y_ending : Int32} {y_isInterface y_isAbstract y_parent y_ancestors y_own y_many y_home y_name y_length y_op y_first y_second y_ruleKind y_ruleClasses y_ruleNames y_inlined y_number y_newName y_family y_vMethod y_vLine y_vHeld y_put : Nat → Int32} {M : Nat} {inl : Nat → Int32}
theorem yg_v (h30 : M ≤ 30) (hl : ∀ m, m < M → y_length m = nI (hq_t (y_length m)) ∧ hq_t (y_length m) ≤ 6) (hi : in_ok M inl y_length) (he : ∀ m k, m < M → k < 6 → y_inlined (6 * m + k) = inl (6 * m + k)) {post : Int32 → Prop} {m x : Nat} (hm : m < M) (hx : x < hq_t (y_length m))
    (hp : post (nI (gy_n inl y_length m x))) : wpY_grown post (y_classes, y_methods, y_rules, y_place, y_named, y_made, y_namedMethods, y_live, y_built, y_depth, y_steps, y_outs, y_ending, y_isInterface, y_isAbstract, y_parent, y_ancestors, y_own, y_many, y_home, y_name, y_length, y_op, y_first, y_second, y_ruleKind, y_ruleClasses, y_ruleNames, y_inlined, y_number, y_newName, y_family, y_vMethod, y_vLine, y_vHeld, y_put) (nI (6 * m + x)) := by
  have l6 := (hl m hm).2
  have i180 : vp_in (nI (6 * m + x)) 180 := vp_in_nI (by omega) (by decide)
  unfold wpY_grown
  dsimp only
  rw [nI_c (by omega), he m x hm (by omega)]
  refine ⟨i180, ?_⟩
  rcases hi m x hm hx with e | ⟨t, tM, e, l3⟩
  · rw [gy_1 (by rw [e]; decide)] at hp
    rw [e]
    exact br_f (by decide) hp
  · rw [gy_t hx (by rw [e]; exact nI_pos (by omega)), e, hq_e (by omega)] at hp
    rw [e, nI_c (by omega), (hl t tM).1]
    refine br_t (nI_pos' (by omega)) ⟨i180, vp_in_nI (by omega) (by decide), ?_⟩
    show post (nI 1 + nI (hq_t (y_length t)))
    rw [nI_add]
    exact hp
end
theorem i_vc_stays {k : Nat} {u : SX} {v : SY} (I : i_Rel k u v) (hk : k + 5 ≤ 2560) (v1 : Int32) (v2 : Int32) : wpX_stays (fun r => wpY_stays (fun r' => r' = r ∧ i_Rel (k + 5) u v) v v1 v2) u v1 v2 := by
  obtain ⟨x_classCount, x_methodCount, x_ruleCount, x_isBuilt, x_faultPlace, x_namedClasses, x_madeClasses, x_namedMethods, x_liveMethods, x_depth, x_stepCount, x_outCount, x_traceCount, x_isInterfaceClass, x_chainOf, x_interfacesOf, x_ancestorsOf, x_homeOf, x_formOf, x_nameOf, x_lengthOf, x_opOf, x_classOf, x_numberOf, x_sourceMethod, x_sourceLine, x_callLine, x_ruleKind, x_ruleClasses, x_ruleNames, x_newNumber, x_familyOf, x_sightOf, x_frameRow, x_frameLine, x_frameHeld, x_outInts, x_traceMethod, x_traceLine⟩ := u; obtain ⟨y_classes, y_methods, y_rules, y_place, y_named, y_made, y_namedMethods, y_live, y_built, y_depth, y_steps, y_outs, y_ending, y_isInterface, y_isAbstract, y_parent, y_ancestors, y_own, y_many, y_home, y_name, y_length, y_op, y_first, y_second, y_ruleKind, y_ruleClasses, y_ruleNames, y_inlined, y_number, y_newName, y_family, y_vMethod, y_vLine, y_vHeld, y_put⟩ := v; have II := I; obtain ⟨C, M, R, t, o, rfl, rfl, rfl, rfl, rfl, rfl, rfl, rfl, rfl, rfl, rfl, rfl, rfl, rfl, rfl, rfl, rfl, rfl, rfl, rfl, rfl, ho, ht, hp, T, hb⟩ := (I : rl_p x_classCount x_methodCount x_ruleCount x_isBuilt x_faultPlace x_namedClasses x_madeClasses x_namedMethods x_liveMethods x_depth x_stepCount x_outCount x_traceCount x_isInterfaceClass x_chainOf x_interfacesOf x_ancestorsOf x_homeOf x_formOf x_nameOf x_lengthOf x_opOf x_classOf x_numberOf x_sourceMethod x_sourceLine x_callLine x_ruleKind x_ruleClasses x_ruleNames x_newNumber x_familyOf x_sightOf x_frameRow x_frameLine x_frameHeld x_outInts x_traceMethod x_traceLine y_classes y_methods y_rules y_place y_named y_made y_namedMethods y_live y_built y_depth y_steps y_outs y_ending y_isInterface y_isAbstract y_parent y_ancestors y_own y_many y_home y_name y_length y_op y_first y_second y_ruleKind y_ruleClasses y_ruleNames y_inlined y_number y_newName y_family y_vMethod y_vLine y_vHeld y_put)
  have h30 := T.2.2.1.1
  have h10 := T.1.1
  unfold wpX_stays wpY_stays
  dsimp only
  refine br_c (fun b => br_t b ⟨rfl, II⟩) (fun b => ?_)
  obtain ⟨⟨rfl, rfl, rfl, rfl⟩, b1, d1, kept, inl, NF, hI, hin, ml, xb, yn, yf, yw⟩ := hb b
  have hi : in_ok M inl y_length := in_il (fun m hm => (tp_len T hm).2.2) hI
  rcases pk_ix v1 (n := M) (by omega) with z | z | ⟨m, hm, rfl⟩
  · exact br_t z (br_f b (yn_b (by omega) (fun j hj e => absurd z (by rw [e]; exact nI_pos (by omega))) (fun _ => ⟨rfl, II⟩)))
  · exact br_f (ix_0 (by omega) z) (br_f (ix_l z) (br_f b (yn_b (by omega) (fun j hj e => absurd z (by rw [e]; exact nI_ge hj (by omega))) (fun _ => ⟨rfl, II⟩))))
  · have i60 : vp_in (nI (30 + m)) 60 := vp_in_nI (by omega) (by decide)
    have i30 : vp_in (nI m) 30 := vp_in_nI (by omega) (by decide)
    have l6 := (tp_len T hm).2.2
    have p24 := po_24 hi h30 hm l6
    have yin : ∀ {A B : Prop}, B → wpY_in (fun r => (r = 0 → A) ∧ (¬ r = 0 → B)) (nI m) (nI M) := fun b => yn_b (by omega) (fun _ _ _ => b) (fun z => absurd z (fun y => y.elim (nI_pos (by omega)) (nI_ge hm (by omega))))
    have fm := xb.1 m hm
    have lm := xb.2.1 m hm
    have nmm := xb.2.2.2.1 m hm
    refine br_f (nI_pos (by omega)) (br_t (nI_lt hm (by omega)) (nm_r (nI_b30 m) ?_))
    rw [nI_c (show 30 + m < 10000 by omega)]
    rcases pk_ix v2 (n := 3) (by decide) with z | z | ⟨w, hw, rfl⟩
    · have n0 : ¬ v2 = 0 := fun q => by rw [q] at z; exact absurd z (by decide)
      have n1 : ¬ v2 = 1 := fun q => by rw [q] at z; exact absurd z (by decide)
      have n2 : ¬ v2 = 2 := fun q => by rw [q] at z; exact absurd z (by decide)
      refine br_f n0 ⟨i60, br_c (fun _ => br_f b (yin ?_)) (fun _ => br_f n1 (br_f n2 (br_f b (yin ?_))))⟩
      · exact yn_b (n := 3) (by decide) (fun j hj e => absurd z (by rw [e]; exact nI_pos (by omega))) (fun _ => ⟨rfl, II⟩)
      · exact yn_b (n := 3) (by decide) (fun j hj e => absurd z (by rw [e]; exact nI_pos (by omega))) (fun _ => ⟨rfl, II⟩)
    · have n0 : ¬ v2 = 0 := fun q => by rw [q] at z; exact absurd z (by decide)
      have n1 : ¬ v2 = 1 := fun q => by rw [q] at z; exact absurd z (by decide)
      have n2 : ¬ v2 = 2 := fun q => by rw [q] at z; exact absurd z (by decide)
      refine br_f n0 ⟨i60, br_c (fun _ => br_f b (yin ?_)) (fun _ => br_f n1 (br_f n2 (br_f b (yin ?_))))⟩
      · exact yn_b (n := 3) (by decide) (fun j hj e => absurd z (by rw [e]; exact nI_ge hj (by decide))) (fun _ => ⟨rfl, II⟩)
      · exact yn_b (n := 3) (by decide) (fun j hj e => absurd z (by rw [e]; exact nI_ge hj (by decide))) (fun _ => ⟨rfl, II⟩)
    · have in3 : ∀ {A B : Prop}, B → wpY_in (fun r => (r = 0 → A) ∧ (¬ r = 0 → B)) (nI w) 3 := fun b => yn_b (n := 3) (by decide) (fun _ _ _ => b) (fun z => absurd z (fun y => y.elim (nI_pos (by omega)) (nI_ge hw (by decide))))
      have fz : x_formOf (30 + m) = 0 ↔ ¬ bt x_namedMethods m = true := by
        rw [fm]
        by_cases l : bt x_liveMethods m = true
        · rw [if_pos l]; exact ⟨fun q => absurd q (by decide), fun q => absurd (ml.1 m l) q⟩
        · rw [if_neg l]
          by_cases n : bt x_namedMethods m = true
          · rw [if_pos n]; exact ⟨fun q => absurd q (by decide), fun q => absurd n q⟩
          · rw [if_neg n]; exact ⟨fun _ => n, fun _ => rfl⟩
      rcases (by omega : w = 0 ∨ w = 1 ∨ w = 2) with q | q | q
      · subst q
        refine br_t rfl ⟨i60, br_f b (yin (in3 (br_t rfl ?_)))⟩
        rw [fm]
        refine yb_b (by omega) (fun l => ?_) (fun l => yR_b ml.1 (by omega) (fun n => ?_) (fun n => ?_))
        · rw [if_pos l]; exact ⟨rfl, II⟩
        · rw [if_neg l, if_pos n]; exact ⟨rfl, II⟩
        · rw [if_neg l, if_neg n]; exact ⟨rfl, II⟩
      · subst q
        refine br_f (by decide) ⟨i60, ek_if fz (fun n => br_f b (yin (in3 (br_f (by decide) (yR_b ml.1 (by omega) (fun q => absurd q n) (fun _ => ⟨rfl, II⟩)))))) (fun n => ?_)⟩
        refine br_t rfl ⟨i60, br_f b (yin (in3 (br_f (by decide) (yR_b ml.1 (by omega) (fun _ => br_t rfl ?_) (fun q => absurd q n)))))⟩
        unfold wpY_nameOf
        dsimp only
        have kl := kn_le (C := C) (M := M) (anc := x_ancestorsOf) (hom := x_homeOf) (nam := y_name) (N := x_namedClasses) (Q := x_namedMethods) m
        rw [nI_c (show m < 10000 by omega), yf m hm, nI_c (by omega)]
        refine ⟨i30, vp_in_nI (by omega) (by decide), ?_, II⟩
        rw [nmm, yw _ (by omega)]
      · subst q
        refine br_f (by decide) ⟨i60, ek_if fz (fun n => br_f b (yin (in3 (br_f (by decide) (yR_b ml.1 (by omega) (fun q => absurd q n) (fun _ => ⟨rfl, II⟩)))))) (fun n => ?_)⟩
        refine br_f (by decide) (br_t rfl ⟨i60, br_f b (yin (in3 (br_f (by decide) (yR_b ml.1 (by omega) (fun _ => br_f (by decide) (nm_r (nI_m6 m) ⟨hq_t (y_length m) + 1, ?_⟩)) (fun q => absurd q n)))))⟩)
        obtain ⟨_, l2, _⟩ := tp_len T hm
        have lo : ∀ q x f, x + q = hq_t (y_length m) → q < f → (bt x_liveMethods m = true ∨ x = 0) → wY_stays_90 (fun r' => r' = x_lengthOf (30 + m) ∧ i_Rel (k + 5) (nI C, nI M, nI R, x_isBuilt, x_faultPlace, x_namedClasses, x_madeClasses, x_namedMethods, x_liveMethods, x_depth, x_stepCount, nI o, nI t, x_isInterfaceClass, x_chainOf, x_interfacesOf, x_ancestorsOf, x_homeOf, x_formOf, x_nameOf, x_lengthOf, x_opOf, x_classOf, x_numberOf, x_sourceMethod, x_sourceLine, x_callLine, x_ruleKind, x_ruleClasses, x_ruleNames, x_newNumber, x_familyOf, x_sightOf, x_frameRow, x_frameLine, x_frameHeld, x_outInts, x_traceMethod, x_traceLine) (nI C, nI M, nI R, x_faultPlace, x_namedClasses, x_madeClasses, x_namedMethods, x_liveMethods, x_isBuilt, nI t, x_stepCount, nI o, y_ending, x_isInterfaceClass, y_isAbstract, y_parent, x_ancestorsOf, x_interfacesOf, y_many, x_homeOf, y_name, y_length, y_op, y_first, y_second, x_ruleKind, x_ruleClasses, x_ruleNames, y_inlined, y_number, y_newName, y_family, y_vMethod, y_vLine, y_vHeld, x_outInts)) (nI m) (nI C) (nI M) (nI R) x_faultPlace x_namedClasses x_madeClasses x_namedMethods x_liveMethods x_isBuilt (nI t) x_stepCount (nI o) y_ending x_isInterfaceClass y_isAbstract y_parent x_ancestorsOf x_interfacesOf y_many x_homeOf y_name y_length y_op y_first y_second x_ruleKind x_ruleClasses x_ruleNames y_inlined y_number y_newName y_family y_vMethod y_vLine y_vHeld x_outInts f (nI (po_n inl y_length m x)) (nI (6 * m + x)) := by
          intro q
          induction q with
          | zero =>
            intro x f e hf lv
            obtain ⟨f, rfl⟩ : ∃ q, f = q + 1 := ⟨f - 1, by omega⟩
            have e : x = hq_t (y_length m) := by omega
            rw [wY_stays_90]
            refine ⟨i30, ?_⟩
            rw [nI_c (show m < 10000 by omega), l2, nI_a6]
            refine br_t (nI_le (by omega) (by omega)) ⟨?_, II⟩
            rw [lm]
            rcases lv with lv | lv
            · rw [if_pos lv, e]
            · by_cases l : bt x_liveMethods m = true
              · rw [if_pos l, e]
              · rw [if_neg l, lv]; rfl
          | succ q ih =>
            intro x f e hf lv
            obtain ⟨f, rfl⟩ : ∃ q, f = q + 1 := ⟨f - 1, by omega⟩
            rw [wY_stays_90]
            refine ⟨i30, ?_⟩
            rw [nI_c (show m < 10000 by omega), l2, nI_a6]
            refine br_f (nI_ge (by omega) (by omega)) (yb_b (by omega) (fun l => ?_) (fun l => ?_))
            · refine yg_v h30 (fun m hm => ⟨(tp_len T hm).2.1, (tp_len T hm).2.2⟩) hi hin hm (by omega) (nm_r (nI_add _ _) (nm_r (nI_1 _) ?_))
              exact ih (x + 1) f (by omega) (by omega) (Or.inl l)
            · rcases lv with lv | lv
              · exact absurd lv l
              · rw [lm, if_neg l, lv]; exact ⟨rfl, II⟩
        exact lo (hq_t (y_length m)) 0 _ (by omega) (by omega) (Or.inr rfl)
end
section
/-! ===== line ===== -/
section
variable {x_classCount x_methodCount x_ruleCount x_isBuilt x_faultPlace x_namedClasses x_madeClasses x_namedMethods x_liveMethods x_depth x_stepCount x_outCount x_traceCount : Int32} {x_isInterfaceClass x_chainOf x_interfacesOf x_ancestorsOf x_homeOf x_formOf x_nameOf x_lengthOf x_opOf x_classOf x_numberOf x_sourceMethod x_sourceLine x_callLine x_ruleKind x_ruleClasses x_ruleNames x_newNumber x_familyOf x_sightOf x_frameRow x_frameLine x_frameHeld x_outInts x_traceMethod x_traceLine : Nat → Int32} {C M : Nat}
theorem xcn_v (h10 : C ≤ 10) (hC : x_classCount = nI C) {post : Int32 → Prop} {v : Int32} (k0 : v < 0 → post (-1)) (k1 : ¬ v < 0 → post (oI (sc_f (fun c => decide (x_newNumber c = v)) C))) : wpX_classNumbered post (x_classCount, x_methodCount, x_ruleCount, x_isBuilt, x_faultPlace, x_namedClasses, x_madeClasses, x_namedMethods, x_liveMethods, x_depth, x_stepCount, x_outCount, x_traceCount, x_isInterfaceClass, x_chainOf, x_interfacesOf, x_ancestorsOf, x_homeOf, x_formOf, x_nameOf, x_lengthOf, x_opOf, x_classOf, x_numberOf, x_sourceMethod, x_sourceLine, x_callLine, x_ruleKind, x_ruleClasses, x_ruleNames, x_newNumber, x_familyOf, x_sightOf, x_frameRow, x_frameLine, x_frameHeld, x_outInts, x_traceMethod, x_traceLine) v := by
  have ge : 0 ≤ v ↔ ¬ v < 0 := by
    rw [Int32.le_iff_toInt_le, Int32.lt_iff_toInt_lt]
    omega
  unfold wpX_classNumbered
  dsimp only
  refine ek_if ge (fun z => ⟨C + 1, ?_⟩) (fun z => k0 (Decidable.byContradiction z))
  have k1 := k1 z
  have lo : ∀ q i f, i + q = C → q < f → (∀ j, j < i → ¬ decide (x_newNumber j = v) = true) → wX_classNumbered_8 post v x_classCount x_methodCount x_ruleCount x_isBuilt x_faultPlace x_namedClasses x_madeClasses x_namedMethods x_liveMethods x_depth x_stepCount x_outCount x_traceCount x_isInterfaceClass x_chainOf x_interfacesOf x_ancestorsOf x_homeOf x_formOf x_nameOf x_lengthOf x_opOf x_classOf x_numberOf x_sourceMethod x_sourceLine x_callLine x_ruleKind x_ruleClasses x_ruleNames x_newNumber x_familyOf x_sightOf x_frameRow x_frameLine x_frameHeld x_outInts x_traceMethod x_traceLine f (nI i) := by
    intro q
    induction q with
    | zero =>
      intro i f e hf no
      obtain ⟨f, rfl⟩ : ∃ q, f = q + 1 := ⟨f - 1, by omega⟩
      have e : i = C := by omega
      subst e
      rw [wX_classNumbered_8]
      rw [sc_fN no] at k1
      exact br_t (by rw [hC]; exact nI_le (by omega) (by omega)) k1
    | succ q ih =>
      intro i f e hf no
      obtain ⟨f, rfl⟩ : ∃ q, f = q + 1 := ⟨f - 1, by omega⟩
      rw [wX_classNumbered_8]
      refine br_f (by rw [hC]; exact nI_ge (by omega) (by omega)) ⟨vp_in_nI (by omega) (by decide), ?_⟩
      rw [nI_c (by omega)]
      refine br_c (fun y => ?_) (fun y => nm_r (nI_1 i) (ih (i + 1) f (by omega) (by omega) (fun j hj => ?_)))
      · rw [sc_fI (m := i) (by omega) (decide_eq_true y) no] at k1
        exact k1
      · rcases Nat.lt_or_ge j i with w | w
        · exact no j w
        · have : j = i := by omega
          subst this; exact fun q => y (of_decide_eq_true q)
  exact lo C 0 (C + 1) (by omega) (by omega) (fun j hj => by omega)
end
section
variable {y_classes y_methods y_rules y_place y_named y_made y_namedMethods y_live y_built y_depth y_steps y_outs y_ending : Int32} {y_isInterface y_isAbstract y_parent y_ancestors y_own y_many y_home y_name y_length y_op y_first y_second y_ruleKind y_ruleClasses y_ruleNames y_inlined y_number y_newName y_family y_vMethod y_vLine y_vHeld y_put : Nat → Int32} {chn xform xname xlen xop xcl xnu xsm xsl xca : Nat → Int32} {C M R : Nat}
theorem ycn_v (h10 : C ≤ 10) (hC : y_classes = nI C) {post : Int32 → Prop} {v : Int32} (k1 : post (oI (sc_f (fun c => bt y_named c && decide (y_number c = v)) C))) : wpY_classOf post (y_classes, y_methods, y_rules, y_place, y_named, y_made, y_namedMethods, y_live, y_built, y_depth, y_steps, y_outs, y_ending, y_isInterface, y_isAbstract, y_parent, y_ancestors, y_own, y_many, y_home, y_name, y_length, y_op, y_first, y_second, y_ruleKind, y_ruleClasses, y_ruleNames, y_inlined, y_number, y_newName, y_family, y_vMethod, y_vLine, y_vHeld, y_put) v := by
  have lo : ∀ q i f, i + q = C → q < f → (∀ j, j < i → ¬ (bt y_named j && decide (y_number j = v)) = true) → wY_classOf_2 post v y_classes y_methods y_rules y_place y_named y_made y_namedMethods y_live y_built y_depth y_steps y_outs y_ending y_isInterface y_isAbstract y_parent y_ancestors y_own y_many y_home y_name y_length y_op y_first y_second y_ruleKind y_ruleClasses y_ruleNames y_inlined y_number y_newName y_family y_vMethod y_vLine y_vHeld y_put f (nI i) := by
    intro q
    induction q with
    | zero =>
      intro i f e hf no
      obtain ⟨f, rfl⟩ : ∃ q, f = q + 1 := ⟨f - 1, by omega⟩
      have e : i = C := by omega
      subst e
      rw [wY_classOf_2]
      rw [sc_fN no] at k1
      exact br_t (by rw [hC]; exact nI_le (by omega) (by omega)) k1
    | succ q ih =>
      intro i f e hf no
      obtain ⟨f, rfl⟩ : ∃ q, f = q + 1 := ⟨f - 1, by omega⟩
      have nx : ¬ (bt y_named i && decide (y_number i = v)) = true → wY_classOf_2 post v y_classes y_methods y_rules y_place y_named y_made y_namedMethods y_live y_built y_depth y_steps y_outs y_ending y_isInterface y_isAbstract y_parent y_ancestors y_own y_many y_home y_name y_length y_op y_first y_second y_ruleKind y_ruleClasses y_ruleNames y_inlined y_number y_newName y_family y_vMethod y_vLine y_vHeld y_put f (nI (i + 1)) := fun y => ih (i + 1) f (by omega) (by omega) (fun j hj => by
        rcases Nat.lt_or_ge j i with w | w
        · exact no j w
        · have : j = i := by omega
          subst this; exact y)
      rw [wY_classOf_2]
      refine br_f (by rw [hC]; exact nI_ge (by omega) (by omega)) (yb_b (by omega) (fun b => ⟨vp_in_nI (by omega) (by decide), ?_⟩) (fun b => nm_r (nI_1 i) (nx (fun q => b (bb_a.mp q).1))))
      rw [nI_c (by omega)]
      refine br_c (fun y => ?_) (fun y => nm_r (nI_1 i) (nx (fun q => y (of_decide_eq_true (bb_a.mp q).2))))
      rw [sc_fI (m := i) (by omega) (bb_a.mpr ⟨b, decide_eq_true y⟩) no] at k1
      exact k1
  unfold wpY_classOf
  exact ⟨C + 1, lo C 0 (C + 1) (by omega) (by omega) (fun j hj => by omega)⟩
/-- the new name in Y -/
theorem yw_v (h30 : M ≤ 30) (hf : ∀ m, m < M → ∃ f, f < 30 ∧ y_family m = nI f) {post : Int32 → Prop} {m : Nat} (hm : m < M) (hp : post (y_newName (hq_t (y_family m)))) : wpY_nameOf post (y_classes, y_methods, y_rules, y_place, y_named, y_made, y_namedMethods, y_live, y_built, y_depth, y_steps, y_outs, y_ending, y_isInterface, y_isAbstract, y_parent, y_ancestors, y_own, y_many, y_home, y_name, y_length, y_op, y_first, y_second, y_ruleKind, y_ruleClasses, y_ruleNames, y_inlined, y_number, y_newName, y_family, y_vMethod, y_vLine, y_vHeld, y_put) (nI m) := by
  obtain ⟨f, f30, e⟩ := hf m hm
  rw [e, hq_e (by omega)] at hp
  unfold wpY_nameOf
  dsimp only
  rw [nI_c (by omega), e, nI_c (by omega)]
  exact ⟨vp_in_nI (by omega) (by decide), vp_in_nI (by omega) (by decide), hp⟩
theorem yst_v (h30 : M ≤ 30) (hM : y_methods = nI M) (hl : ss_le y_live y_namedMethods) (ho : ∀ m, m < M → y_home m = nI (hq_t (y_home m)) ∧ hq_t (y_home m) < 10) (hf : ∀ m, m < M → ∃ f, f < 30 ∧ y_family m = nI f) {post : Int32 → Prop} {c : Nat} {n : Int32} (hc : c < 10)
    (hp : post (oI (dc_v M y_home (fun m => bt y_namedMethods m && decide (y_newName (hq_t (y_family m)) = n)) c))) : wpY_standing post (y_classes, y_methods, y_rules, y_place, y_named, y_made, y_namedMethods, y_live, y_built, y_depth, y_steps, y_outs, y_ending, y_isInterface, y_isAbstract, y_parent, y_ancestors, y_own, y_many, y_home, y_name, y_length, y_op, y_first, y_second, y_ruleKind, y_ruleClasses, y_ruleNames, y_inlined, y_number, y_newName, y_family, y_vMethod, y_vLine, y_vHeld, y_put) (nI c) n := by
  have lo : ∀ q i f, i + q = M → q < f → (∀ j, j < i → ¬ (decide (hq_t (y_home j) = c) && (bt y_namedMethods j && decide (y_newName (hq_t (y_family j)) = n))) = true) → wY_standing_2 post (nI c) n y_classes y_methods y_rules y_place y_named y_made y_namedMethods y_live y_built y_depth y_steps y_outs y_ending y_isInterface y_isAbstract y_parent y_ancestors y_own y_many y_home y_name y_length y_op y_first y_second y_ruleKind y_ruleClasses y_ruleNames y_inlined y_number y_newName y_family y_vMethod y_vLine y_vHeld y_put f (nI i) := by
    intro q
    induction q with
    | zero =>
      intro i f e hf' no
      obtain ⟨f, rfl⟩ : ∃ q, f = q + 1 := ⟨f - 1, by omega⟩
      have e : i = M := by omega
      subst e
      rw [wY_standing_2]
      unfold dc_v at hp
      rw [sc_fN no] at hp
      exact br_t (by rw [hM]; exact nI_le (by omega) (by omega)) hp
    | succ q ih =>
      intro i f e hf' no
      obtain ⟨f, rfl⟩ : ∃ q, f = q + 1 := ⟨f - 1, by omega⟩
      have nx : ¬ (decide (hq_t (y_home i) = c) && (bt y_namedMethods i && decide (y_newName (hq_t (y_family i)) = n))) = true → wY_standing_2 post (nI c) n y_classes y_methods y_rules y_place y_named y_made y_namedMethods y_live y_built y_depth y_steps y_outs y_ending y_isInterface y_isAbstract y_parent y_ancestors y_own y_many y_home y_name y_length y_op y_first y_second y_ruleKind y_ruleClasses y_ruleNames y_inlined y_number y_newName y_family y_vMethod y_vLine y_vHeld y_put f (nI (i + 1)) := fun y => ih (i + 1) f (by omega) (by omega) (fun j hj => by
        rcases Nat.lt_or_ge j i with w | w
        · exact no j w
        · have : j = i := by omega
          subst this; exact y)
      have hi := ho i (by omega)
      rw [wY_standing_2]
      refine br_f (by rw [hM]; exact nI_ge (by omega) (by omega)) (yR_b hl (by omega) (fun b => ⟨vp_in_nI (by omega) (by decide), ?_⟩) (fun b => nm_r (nI_1 i) (nx (fun q => b (bb_a.mp (bb_a.mp q).2).1))))
      rw [nI_c (by omega), hi.1]
      refine pk_eq (hq_t (y_home i)) c (fun z => yw_v h30 hf (by omega) (br_c (fun y => ?_) (fun y => nm_r (nI_1 i) (nx (fun q => y (of_decide_eq_true (bb_a.mp (bb_a.mp q).2).2)))))) (fun z => nm_r (nI_1 i) (nx (fun q => z (of_decide_eq_true (bb_a.mp q).1))))
      unfold dc_v at hp
      rw [sc_fI (m := i) (by omega) (bb_a.mpr ⟨decide_eq_true z, bb_a.mpr ⟨b, decide_eq_true y⟩⟩) no] at hp
      exact hp
  unfold wpY_standing
  exact ⟨M + 1, lo M 0 (M + 1) (by omega) (by omega) (fun j hj => by omega)⟩
/-- what a line is told as -/
theorem ytl_v {post : Int32 → Prop} {j o : Nat} {e by_ w : Int32} (hj : j < 180) (ho : y_op j = nI o) (o6 : o < 6)
    (K : ∀ z0, ((o = 0 ∨ o = 5 ∨ (¬ e = 0 ∧ o = 3)) → z0 = 1) → (¬ (o = 0 ∨ o = 5 ∨ (¬ e = 0 ∧ o = 3)) → z0 = 0) → wY_told_42 post (nI j) e by_ w (nI o) (y_first j) z0 y_classes y_methods y_rules y_place y_named y_made y_namedMethods y_live y_built y_depth y_steps y_outs y_ending y_isInterface y_isAbstract y_parent y_ancestors y_own y_many y_home y_name y_length y_op y_first y_second y_ruleKind y_ruleClasses y_ruleNames y_inlined y_number y_newName y_family y_vMethod y_vLine y_vHeld y_put) : wpY_told post (y_classes, y_methods, y_rules, y_place, y_named, y_made, y_namedMethods, y_live, y_built, y_depth, y_steps, y_outs, y_ending, y_isInterface, y_isAbstract, y_parent, y_ancestors, y_own, y_many, y_home, y_name, y_length, y_op, y_first, y_second, y_ruleKind, y_ruleClasses, y_ruleNames, y_inlined, y_number, y_newName, y_family, y_vMethod, y_vLine, y_vHeld, y_put) (nI j) e by_ w := by
  unfold wpY_told
  dsimp only
  rw [nI_c (by omega)]
  have t1 : (o = 0 ∨ o = 5 ∨ (¬ e = 0 ∧ o = 3)) → wY_told_37 post (nI j) e by_ w (nI o) (y_first j) y_classes y_methods y_rules y_place y_named y_made y_namedMethods y_live y_built y_depth y_steps y_outs y_ending y_isInterface y_isAbstract y_parent y_ancestors y_own y_many y_home y_name y_length y_op y_first y_second y_ruleKind y_ruleClasses y_ruleNames y_inlined y_number y_newName y_family y_vMethod y_vLine y_vHeld y_put := fun h => by
    unfold wY_told_37
    exact K 1 (fun _ => rfl) (fun z => absurd h z)
  have t0 : ¬ (o = 0 ∨ o = 5 ∨ (¬ e = 0 ∧ o = 3)) → wY_told_41 post (nI j) e by_ w (nI o) (y_first j) y_classes y_methods y_rules y_place y_named y_made y_namedMethods y_live y_built y_depth y_steps y_outs y_ending y_isInterface y_isAbstract y_parent y_ancestors y_own y_many y_home y_name y_length y_op y_first y_second y_ruleKind y_ruleClasses y_ruleNames y_inlined y_number y_newName y_family y_vMethod y_vLine y_vHeld y_put := fun h => by
    unfold wY_told_41
    exact K 0 (fun z => absurd z h) (fun _ => rfl)
  refine ⟨vp_in_nI hj (by decide), nm_r ho ⟨vp_in_nI hj (by decide), nm_e ?_⟩⟩
  refine pk_eq o 0 (fun z => t1 (Or.inl z)) (fun z0 => pk_eq o 5 (fun z => t1 (Or.inr (Or.inl z))) (fun z5 => br_c (fun e0 => t0 (fun q => q.elim z0 (fun q => q.elim z5 (fun q => q.1 e0)))) (fun e0 => pk_eq o 3 (fun z => t1 (Or.inr (Or.inr ⟨e0, z⟩))) (fun z => t0 (fun q => q.elim z0 (fun q => q.elim z5 (fun q => z q.2)))))))
/-- its value; F: what the call finds, as a name -/
def tv_v (num yfi yse : Nat → Int32) (nn : Int32) (e : Int32) (by_ : Int32) (o : Nat) (m x w : Nat) : Int32 :=
  match w with
  | 0 => if e = 0 then nI o else 6
  | 1 => if o = 0 ∨ o = 5 ∨ (¬ e = 0 ∧ o = 3) then -1 else num (hq_t (yfi (6 * m + x)))
  | 2 => if e = 0 ∧ (o = 2 ∨ o = 3) then nn else if o = 0 then yse (6 * m + x) else 0
  | 3 => nI m
  | 4 => nI x
  | _ => by_
theorem ytv_v (T : tp_p C M R y_isInterface y_ancestors y_own chn y_parent y_many y_home y_ruleKind y_ruleClasses y_ruleNames xform xname xlen y_isAbstract y_name y_length xop xcl xnu xsm xsl xca y_op y_first y_second) (hC : y_classes = nI C) (hM : y_methods = nI M) (hf : ∀ m, m < M → ∃ f, f < 30 ∧ y_family m = nI f) {post : Int32 → Prop} {m x o w : Nat} {e by_ : Int32} (hm : m < M) (x6 : x < 6) (ho : y_op (6 * m + x) = nI o) (o6 : o < 6) (w6 : w < 6)
    (hc : 1 ≤ o → o ≤ 4 → ∃ c, c < C ∧ y_first (6 * m + x) = nI c) {g : Nat} (hg : (o = 2 ∨ o = 3) → fo_v M y_ancestors chn y_home y_name (hq_t (y_first (6 * m + x))) (y_second (6 * m + x)) = some g)
    (hp : post (tv_v y_number y_first y_second (y_newName (hq_t (y_family g))) e by_ o m x w)) : wpY_told post (y_classes, y_methods, y_rules, y_place, y_named, y_made, y_namedMethods, y_live, y_built, y_depth, y_steps, y_outs, y_ending, y_isInterface, y_isAbstract, y_parent, y_ancestors, y_own, y_many, y_home, y_name, y_length, y_op, y_first, y_second, y_ruleKind, y_ruleClasses, y_ruleNames, y_inlined, y_number, y_newName, y_family, y_vMethod, y_vLine, y_vHeld, y_put) (nI (6 * m + x)) e by_ (nI w) := by
  have h30 := T.2.2.1.1
  have h10 := T.1.1
  have e1 : (6 * m + x) / 6 = m := by omega
  have e2 : (6 * m + x) % 6 = x := by omega
  refine ytl_v (by omega) ho o6 (fun z0 k1 k0 => ?_)
  unfold wY_told_42
  refine br_f (nI_pos (by omega)) ?_
  rcases (by omega : w = 0 ∨ w = 1 ∨ w = 2 ∨ w = 3 ∨ w = 4 ∨ w = 5) with q | q | q | q | q | q
  · subst q
    refine br_f (by decide) (br_t rfl (br_c (fun z => ?_) (fun z => ?_)))
    · have : tv_v y_number y_first y_second (y_newName (hq_t (y_family g))) e by_ o m x 0 = nI o := if_pos z
      rw [this] at hp; exact hp
    · have : tv_v y_number y_first y_second (y_newName (hq_t (y_family g))) e by_ o m x 0 = 6 := if_neg z
      rw [this] at hp; exact hp
  · subst q
    refine br_f (by decide) (br_f (by decide) (br_t rfl ?_))
    by_cases n : o = 0 ∨ o = 5 ∨ (¬ e = 0 ∧ o = 3)
    · have : tv_v y_number y_first y_second (y_newName (hq_t (y_family g))) e by_ o m x 1 = -1 := if_pos n
      rw [this] at hp
      rw [k1 n]; exact br_1 hp
    · have : tv_v y_number y_first y_second (y_newName (hq_t (y_family g))) e by_ o m x 1 = y_number (hq_t (y_first (6 * m + x))) := if_neg n
      rw [this] at hp
      obtain ⟨c, cC, ec⟩ := hc (by omega) (by omega)
      rw [ec, hq_e (by omega)] at hp
      rw [k0 n, ec, nI_c (by omega)]
      exact br_0 ⟨vp_in_nI (by omega) (by decide), hp⟩
  · subst q
    refine br_f (by decide) (br_f (by decide) (br_f (by decide) (br_t rfl ?_)))
    have no : ¬ (e = 0 ∧ (o = 2 ∨ o = 3)) → wY_told_140 post (nI (6 * m + x)) (nI o) y_classes y_methods y_rules y_place y_named y_made y_namedMethods y_live y_built y_depth y_steps y_outs y_ending y_isInterface y_isAbstract y_parent y_ancestors y_own y_many y_home y_name y_length y_op y_first y_second y_ruleKind y_ruleClasses y_ruleNames y_inlined y_number y_newName y_family y_vMethod y_vLine y_vHeld y_put := fun n => by
      have : tv_v y_number y_first y_second (y_newName (hq_t (y_family g))) e by_ o m x 2 = if o = 0 then y_second (6 * m + x) else 0 := if_neg n
      rw [this] at hp
      unfold wY_told_140 wY_told_141
      rw [nI_c (by omega)]
      refine pk_eq o 0 (fun z => ?_) (fun z => ?_)
      · rw [if_pos z] at hp; exact ⟨vp_in_nI (by omega) (by decide), hp⟩
      · rw [if_neg z] at hp; exact br_f (by decide) hp
    have yes : e = 0 → (o = 2 ∨ o = 3) → wY_told_125 post (nI (6 * m + x)) (nI o) (y_first (6 * m + x)) y_classes y_methods y_rules y_place y_named y_made y_namedMethods y_live y_built y_depth y_steps y_outs y_ending y_isInterface y_isAbstract y_parent y_ancestors y_own y_many y_home y_name y_length y_op y_first y_second y_ruleKind y_ruleClasses y_ruleNames y_inlined y_number y_newName y_family y_vMethod y_vLine y_vHeld y_put := fun e0 o23 => by
      have : tv_v y_number y_first y_second (y_newName (hq_t (y_family g))) e by_ o m x 2 = y_newName (hq_t (y_family g)) := if_pos ⟨e0, o23⟩
      rw [this] at hp
      obtain ⟨c, cC, ec⟩ := hc (by omega) (by omega)
      have hg := hg o23
      rw [ec, hq_e (by omega)] at hg
      have gM := (fd_s T.1 cC hg).1
      unfold wY_told_125
      rw [nI_c (by omega), ec]
      refine ⟨vp_in_nI (by omega) (by decide), yo_v T hC hM cC ?_⟩
      rw [hg, oI_s]
      unfold wY_told_141
      refine pk_eq o 0 (fun z => by omega) (fun z => br_t (nI_pos' (by omega)) (yw_v h30 hf gM hp))
    exact br_c (fun e0 => pk_eq o 2 (fun z => yes e0 (Or.inl z)) (fun z2 => pk_eq o 3 (fun z => yes e0 (Or.inr z)) (fun z3 => no (fun q => q.2.elim z2 z3)))) (fun e0 => no (fun q => e0 q.1))
  · subst q
    refine br_f (by decide) (br_f (by decide) (br_f (by decide) (br_f (by decide) (br_t rfl ⟨by decide, ?_⟩))))
    rw [nI_d6 (by omega), e1]; exact hp
  · subst q
    refine br_f (by decide) (br_f (by decide) (br_f (by decide) (br_f (by decide) (br_f (by decide) (br_t rfl ⟨by decide, ?_⟩)))))
    rw [nI_r6 (by omega), e2]; exact hp
  · subst q
    exact br_t (by decide) hp
end
end
section
/-! ===== line: the two walks ===== -/
def xv_v (O P N S U A nu : Nat → Int32) (p w : Nat) : Int32 :=
  match w with
  | 0 => O p
  | 1 => if P p = -1 then -1 else nu (hq_t (P p))
  | 2 => N p
  | 3 => S p
  | 4 => U p
  | _ => A p
section
variable {x_classCount x_methodCount x_ruleCount x_isBuilt x_faultPlace x_namedClasses x_madeClasses x_namedMethods x_liveMethods x_depth x_stepCount x_outCount x_traceCount : Int32} {x_isInterfaceClass x_chainOf x_interfacesOf x_ancestorsOf x_homeOf x_formOf x_nameOf x_lengthOf x_opOf x_classOf x_numberOf x_sourceMethod x_sourceLine x_callLine x_ruleKind x_ruleClasses x_ruleNames x_newNumber x_familyOf x_sightOf x_frameRow x_frameLine x_frameHeld x_outInts x_traceMethod x_traceLine : Nat → Int32} {y_classes y_methods y_rules y_place y_named y_made y_namedMethods y_live y_built y_depth y_steps y_outs y_ending : Int32} {y_isInterface y_isAbstract y_parent y_ancestors y_own y_many y_home y_name y_length y_op y_first y_second y_ruleKind y_ruleClasses y_ruleNames y_inlined y_number y_newName y_family y_vMethod y_vLine y_vHeld y_put : Nat → Int32} {C M R : Nat}
/-- the new program's lines: X's cells as Y tells them -/
theorem lv_h {inl : Nat → Int32} {b1 d1 kept : Int32} (T : tp_p C M R x_isInterfaceClass x_ancestorsOf x_interfacesOf x_chainOf y_parent y_many x_homeOf x_ruleKind x_ruleClasses x_ruleNames x_formOf x_nameOf x_lengthOf y_isAbstract y_name y_length x_opOf x_classOf x_numberOf x_sourceMethod x_sourceLine x_callLine y_op y_first y_second) (NF : ff_v C M x_isInterfaceClass x_ancestorsOf x_chainOf x_homeOf y_isAbstract y_name y_length y_op y_first y_second = none) (hI : ∀ m k, m < M → k < 6 → il_p C M x_ancestorsOf x_chainOf x_homeOf y_isAbstract y_name y_length y_op y_first y_second b1 d1 m k (inl (6 * m + k)))
    (xb : xb_p C M R x_ancestorsOf x_chainOf x_homeOf x_ruleClasses x_ruleNames y_name y_length y_op y_first y_second inl x_namedClasses x_namedMethods x_liveMethods kept x_formOf x_nameOf x_lengthOf x_opOf x_classOf x_numberOf x_sourceMethod x_sourceLine x_callLine x_newNumber)
    (yn : ∀ k, k < C → y_number k = nu_v kept x_namedClasses k) (yf : ∀ m, m < M → y_family m = nI (kn_f C M x_ancestorsOf x_homeOf y_name x_namedClasses x_namedMethods m)) (yw : ∀ m, m < M → y_newName m = na_it C M R x_ancestorsOf x_homeOf y_name x_ruleClasses x_ruleNames x_namedClasses x_namedMethods M m)
    {m x : Nat} (hm : m < M) (hl : bt x_liveMethods m = true) (hx : x < hq_t (y_length m)) :
    ∃ o g, o < 6 ∧ y_op (6 * m + x) = nI o ∧ (1 ≤ o → o ≤ 4 → ∃ c, c < C ∧ y_first (6 * m + x) = nI c) ∧ ((o = 2 ∨ o = 3) → fo_v M x_ancestorsOf x_chainOf x_homeOf y_name (hq_t (y_first (6 * m + x))) (y_second (6 * m + x)) = some g) ∧
      ∀ w, w < 6 → xv_v x_opOf x_classOf x_numberOf x_sourceMethod x_sourceLine x_callLine x_newNumber (24 * (30 + m) + po_n inl y_length m x) w =
        tv_v y_number y_first y_second (y_newName (hq_t (y_family g))) (if inl (6 * m + x) < 0 then 0 else 1) (-1) o m x w := by
  have h30 := T.2.2.1.1
  have h10 := T.1.1
  have l6 := (tp_len T hm).2.2
  obtain ⟨o, o6, e1, e2, e3, e4, e5, e50, e5n, _⟩ := T.2.2.2.2.2.1 m x hm hx
  obtain ⟨o', o6', ey, ex, g1, g2, g3⟩ := xc_c T NF hm hx
  have oo : o' = o := by rw [e2] at ey; exact ((nI_eq (by omega) (by omega)).mp ey).symm
  subst oo
  obtain ⟨c1, c2, s1, s2, s3⟩ := xb.2.2.1 m hm hl x hx
  have nue : ∀ k, k < C → x_newNumber k = y_number k := fun k hk => by rw [xb.2.2.2.2.1 k hk, yn k hk]
  have gex : ∃ g, (o' = 2 ∨ o' = 3) → fo_v M x_ancestorsOf x_chainOf x_homeOf y_name (hq_t (y_first (6 * m + x))) (y_second (6 * m + x)) = some g := by
    by_cases h : o' = 2 ∨ o' = 3
    · obtain ⟨_, g, eg, _⟩ := g3 h
      exact ⟨g, fun _ => eg⟩
    · exact ⟨0, fun z => absurd z h⟩
  obtain ⟨g, eg⟩ := gex
  refine ⟨o', g, o6, e2, fun a b => ?_, eg, fun w hw => ?_⟩
  · obtain ⟨q, qC, p1, _⟩ := g1 ⟨a, b⟩
    exact ⟨q, qC, p1⟩
  · by_cases n : inl (6 * m + x) < 0
    · obtain ⟨q1, q2, q3⟩ := c1 n
      rw [if_pos n]
      rcases (by omega : w = 0 ∨ w = 1 ∨ w = 2 ∨ w = 3 ∨ w = 4 ∨ w = 5) with q | q | q | q | q | q
      · subst q
        show x_opOf (24 * (30 + m) + po_n inl y_length m x) = if (0 : Int32) = 0 then nI o' else 6
        rw [q1, ex, if_pos rfl]
      · subst q
        show (if x_classOf (24 * (30 + m) + po_n inl y_length m x) = -1 then -1 else x_newNumber (hq_t (x_classOf (24 * (30 + m) + po_n inl y_length m x)))) = if o' = 0 ∨ o' = 5 ∨ (¬ (0 : Int32) = 0 ∧ o' = 3) then -1 else y_number (hq_t (y_first (6 * m + x)))
        rw [q2]
        by_cases oc : 1 ≤ o' ∧ o' ≤ 4
        · obtain ⟨q, qC, p1, p2⟩ := g1 oc
          have nz : ¬ (o' = 0 ∨ o' = 5 ∨ (¬ (0 : Int32) = 0 ∧ o' = 3)) := by
            rintro (z | z | z)
            · omega
            · omega
            · exact z.1 rfl
          rw [p1, p2, if_neg (oI_n (by omega)), if_neg nz, hq_e (by omega), nue q qC]
        · rw [g2 oc, if_pos rfl, if_pos (by omega)]
      · subst q
        show x_numberOf (24 * (30 + m) + po_n inl y_length m x) = if (0 : Int32) = 0 ∧ (o' = 2 ∨ o' = 3) then y_newName (hq_t (y_family g)) else if o' = 0 then y_second (6 * m + x) else 0
        rw [q3]
        unfold rn_v
        by_cases h : o' = 2 ∨ o' = 3
        · have h' : y_op (6 * m + x) = 2 ∨ y_op (6 * m + x) = 3 := by
            rw [e2]
            rcases h with z | z
            · subst z; exact Or.inl rfl
            · subst z; exact Or.inr rfl
          obtain ⟨q, qC, p1, p2⟩ := g1 (by omega)
          have eg := eg h
          have gM : g < M := by
            rw [p1, hq_e (by omega)] at eg
            exact (fd_s T.1 qC eg).1
          have kl := kn_le (C := C) (M := M) (anc := x_ancestorsOf) (hom := x_homeOf) (nam := y_name) (N := x_namedClasses) (Q := x_namedMethods) g
          rw [if_pos h', if_pos ⟨rfl, h⟩, eg]
          show x_nameOf (30 + g) = _
          rw [xb.2.2.2.1 g gM, yf g gM, hq_e (by omega), yw _ (by omega)]
        · have h' : ¬ (y_op (6 * m + x) = 2 ∨ y_op (6 * m + x) = 3) := by
            rw [e2]
            rintro (z | z)
            · exact h (Or.inl ((nI_eq (a := o') (b := 2) (by omega) (by omega)).mp z))
            · exact h (Or.inr ((nI_eq (a := o') (b := 3) (by omega) (by omega)).mp z))
          rw [if_neg h', if_neg (fun z => h z.2)]
          by_cases z : o' = 0
          · rw [if_pos z]; exact e50 z
          · rw [if_neg z]; exact e5n (by omega)
      · subst q; exact s1
      · subst q; exact s2
      · subst q; exact s3
    · obtain ⟨q1, q2, q3, _⟩ := c2 n
      rw [if_neg n]
      have o23 : o' = 2 ∨ o' = 3 := by
        rcases in_bl hI hm (show x < 6 by omega) with e | ⟨t, tM, et, _, _, oo⟩
        · rw [e] at n; exact absurd (by decide) n
        · rw [e2] at oo
          rcases oo with z | z
          · exact Or.inl ((nI_eq (a := o') (b := 2) (by omega) (by omega)).mp z)
          · exact Or.inr ((nI_eq (a := o') (b := 3) (by omega) (by omega)).mp z)
      rcases (by omega : w = 0 ∨ w = 1 ∨ w = 2 ∨ w = 3 ∨ w = 4 ∨ w = 5) with q | q | q | q | q | q
      · subst q
        show x_opOf (24 * (30 + m) + po_n inl y_length m x) = if (1 : Int32) = 0 then nI o' else 6
        rw [q1, if_neg (by decide)]
      · subst q
        show (if x_classOf (24 * (30 + m) + po_n inl y_length m x) = -1 then -1 else x_newNumber (hq_t (x_classOf (24 * (30 + m) + po_n inl y_length m x)))) = if o' = 0 ∨ o' = 5 ∨ (¬ (1 : Int32) = 0 ∧ o' = 3) then -1 else y_number (hq_t (y_first (6 * m + x)))
        rw [q2, ex]
        obtain ⟨q, qC, p1, p2⟩ := g1 (by omega)
        rcases o23 with z | z
        · subst z
          rw [if_neg (show ¬ nI 2 = 3 by decide), p1, p2, if_neg (oI_n (by omega)), if_neg (by omega), hq_e (by omega), nue q qC]
        · subst z
          rw [if_pos (show nI 3 = 3 from rfl), if_pos rfl, if_pos (Or.inr (Or.inr ⟨by decide, rfl⟩))]
      · subst q
        show x_numberOf (24 * (30 + m) + po_n inl y_length m x) = if (1 : Int32) = 0 ∧ (o' = 2 ∨ o' = 3) then y_newName (hq_t (y_family g)) else if o' = 0 then y_second (6 * m + x) else 0
        rw [q3, if_neg (fun z => absurd z.1 (by decide)), if_neg (by omega)]
      · subst q; exact s1
      · subst q; exact s2
      · subst q; exact s3
/-- and those that were inlined -/
theorem lv_i {inl : Nat → Int32} {b1 d1 kept : Int32} (T : tp_p C M R x_isInterfaceClass x_ancestorsOf x_interfacesOf x_chainOf y_parent y_many x_homeOf x_ruleKind x_ruleClasses x_ruleNames x_formOf x_nameOf x_lengthOf y_isAbstract y_name y_length x_opOf x_classOf x_numberOf x_sourceMethod x_sourceLine x_callLine y_op y_first y_second) (hI : ∀ m k, m < M → k < 6 → il_p C M x_ancestorsOf x_chainOf x_homeOf y_isAbstract y_name y_length y_op y_first y_second b1 d1 m k (inl (6 * m + k)))
    (xb : xb_p C M R x_ancestorsOf x_chainOf x_homeOf x_ruleClasses x_ruleNames y_name y_length y_op y_first y_second inl x_namedClasses x_namedMethods x_liveMethods kept x_formOf x_nameOf x_lengthOf x_opOf x_classOf x_numberOf x_sourceMethod x_sourceLine x_callLine x_newNumber)
    {m x j : Nat} (hm : m < M) (hl : bt x_liveMethods m = true) (hx : x < hq_t (y_length m)) (n : ¬ inl (6 * m + x) < 0) (hj : j < hq_t (y_length (hq_t (inl (6 * m + x))))) (nn : Int32) :
    ∃ t o, t < M ∧ inl (6 * m + x) = nI t ∧ j < 3 ∧ (o = 0 ∨ o = 5) ∧ y_op (6 * t + j) = nI o ∧ j < hq_t (y_length t) ∧
      ∀ w, w < 6 → xv_v x_opOf x_classOf x_numberOf x_sourceMethod x_sourceLine x_callLine x_newNumber (24 * (30 + m) + po_n inl y_length m x + 1 + j) w =
        tv_v y_number y_first y_second nn 0 (nI x) o t j w := by
  have h30 := T.2.2.1.1
  have l6 := (tp_len T hm).2.2
  obtain ⟨_, c2, _⟩ := xb.2.2.1 m hm hl x hx
  obtain ⟨_, _, _, q4⟩ := c2 n
  obtain ⟨r1, r2, r3, r4, r5, r6⟩ := q4 j hj
  rcases in_bl hI hm (show x < 6 by omega) with e | ⟨t, tM, et, l3, ops, _⟩
  · rw [e] at n; exact absurd (by decide) n
  · have ht : hq_t (inl (6 * m + x)) = t := by rw [et]; exact hq_e (by omega)
    rw [ht] at hj r1 r3
    obtain ⟨o, o6, e1, e2, _, _, _, e50, e5n, _⟩ := T.2.2.2.2.2.1 t j tM hj
    have o05 : o = 0 ∨ o = 5 := by
      rcases ops j hj with z | z
      · rw [e2] at z; exact Or.inl ((nI_eq (a := o) (b := 0) (by omega) (by omega)).mp z)
      · rw [e2] at z; exact Or.inr ((nI_eq (a := o) (b := 5) (by omega) (by omega)).mp z)
    refine ⟨t, o, tM, et, by omega, o05, e2, hj, fun w hw => ?_⟩
    rcases (by omega : w = 0 ∨ w = 1 ∨ w = 2 ∨ w = 3 ∨ w = 4 ∨ w = 5) with q | q | q | q | q | q
    · subst q
      show x_opOf (24 * (30 + m) + po_n inl y_length m x + 1 + j) = if (0 : Int32) = 0 then nI o else 6
      rw [r1, e1, if_pos rfl]
    · subst q
      show (if x_classOf (24 * (30 + m) + po_n inl y_length m x + 1 + j) = -1 then -1 else x_newNumber (hq_t (x_classOf (24 * (30 + m) + po_n inl y_length m x + 1 + j)))) = if o = 0 ∨ o = 5 ∨ (¬ (0 : Int32) = 0 ∧ o = 3) then -1 else y_number (hq_t (y_first (6 * t + j)))
      rw [r2, if_pos rfl, if_pos (by omega)]
    · subst q
      show x_numberOf (24 * (30 + m) + po_n inl y_length m x + 1 + j) = if (0 : Int32) = 0 ∧ (o = 2 ∨ o = 3) then nn else if o = 0 then y_second (6 * t + j) else 0
      rw [r3, if_neg (by omega)]
      by_cases z : o = 0
      · rw [if_pos z]; exact e50 z
      · rw [if_neg z]; exact e5n (by omega)
    · subst q
      show x_sourceMethod (24 * (30 + m) + po_n inl y_length m x + 1 + j) = nI t
      rw [r4, et]
    · subst q; exact r5
    · subst q; exact r6
end
end
section
/-! ===== line ===== -/
section
variable {x_classCount x_methodCount x_ruleCount x_isBuilt x_faultPlace x_namedClasses x_madeClasses x_namedMethods x_liveMethods x_depth x_stepCount x_outCount x_traceCount : Int32} {x_isInterfaceClass x_chainOf x_interfacesOf x_ancestorsOf x_homeOf x_formOf x_nameOf x_lengthOf x_opOf x_classOf x_numberOf x_sourceMethod x_sourceLine x_callLine x_ruleKind x_ruleClasses x_ruleNames x_newNumber x_familyOf x_sightOf x_frameRow x_frameLine x_frameHeld x_outInts x_traceMethod x_traceLine : Nat → Int32} {y_classes y_methods y_rules y_place y_named y_made y_namedMethods y_live y_built y_depth y_steps y_outs y_ending : Int32} {y_isInterface y_isAbstract y_parent y_ancestors y_own y_many y_home y_name y_length y_op y_first y_second y_ruleKind y_ruleClasses y_ruleNames y_inlined y_number y_newName y_family y_vMethod y_vLine y_vHeld y_put : Nat → Int32}
theorem xl_bad {post : Int32 → Prop} {x2 x3 x4 : Int32} (hp : post (-1)) : wX_line_16 post x2 x3 x4 (-1) x_classCount x_methodCount x_ruleCount x_isBuilt x_faultPlace x_namedClasses x_madeClasses x_namedMethods x_liveMethods x_depth x_stepCount x_outCount x_traceCount x_isInterfaceClass x_chainOf x_interfacesOf x_ancestorsOf x_homeOf x_formOf x_nameOf x_lengthOf x_opOf x_classOf x_numberOf x_sourceMethod x_sourceLine x_callLine x_ruleKind x_ruleClasses x_ruleNames x_newNumber x_familyOf x_sightOf x_frameRow x_frameLine x_frameHeld x_outInts x_traceMethod x_traceLine := by
  unfold wX_line_16
  exact br_t rfl hp
theorem yl_bad {post : Int32 → Prop} {x2 x3 x4 : Int32} (hp : post (-1)) : wY_line_20 post x2 x3 x4 (-1) y_classes y_methods y_rules y_place y_named y_made y_namedMethods y_live y_built y_depth y_steps y_outs y_ending y_isInterface y_isAbstract y_parent y_ancestors y_own y_many y_home y_name y_length y_op y_first y_second y_ruleKind y_ruleClasses y_ruleNames y_inlined y_number y_newName y_family y_vMethod y_vLine y_vHeld y_put := by
  unfold wY_line_20 wY_line_38
  exact br_f (by decide) (br_t (by decide) hp)
/-- the value of a line in X -/
theorem xl_w {post : Int32 → Prop} {p w : Nat} (hp : p < 1440) (w6 : w < 6) (hP : x_classOf p = -1 ∨ ∃ q, q < 10 ∧ x_classOf p = nI q) (h : post (xv_v x_opOf x_classOf x_numberOf x_sourceMethod x_sourceLine x_callLine x_newNumber p w)) :
    ((nI w < 0 → (post (-1))) ∧ (¬ nI w < 0 → (((5 < nI w → (post (-1))) ∧ (¬ 5 < nI w → (((nI w = 0 → (vp_in (nI p) 1440 ∧ (post (x_opOf p)))) ∧ (¬ nI w = 0 → (((nI w = 1 → (vp_in (nI p) 1440 ∧ ((((x_classOf p) = (-1) → (post (-1))) ∧ (¬ (x_classOf p) = (-1) → (vp_in (nI p) 1440 ∧ (vp_in (x_classOf p) 10 ∧ (post (x_newNumber (x_classOf p).toNatClampNeg))))))))) ∧ (¬ nI w = 1 → (((nI w = 2 → (vp_in (nI p) 1440 ∧ (post (x_numberOf p)))) ∧ (¬ nI w = 2 → (((nI w = 3 → (vp_in (nI p) 1440 ∧ (post (x_sourceMethod p)))) ∧ (¬ nI w = 3 → (((nI w = 4 → (vp_in (nI p) 1440 ∧ (post (x_sourceLine p)))) ∧ (¬ nI w = 4 → (((nI w = 5 → (vp_in (nI p) 1440 ∧ (post (x_callLine p)))) ∧ (¬ nI w = 5 → (True)))))))))))))))))))))))) := by
  have ip : vp_in (nI p) 1440 := vp_in_nI hp (by decide)
  refine br_f (nI_pos (by omega)) ?_
  rcases (by omega : w = 0 ∨ w = 1 ∨ w = 2 ∨ w = 3 ∨ w = 4 ∨ w = 5) with q | q | q | q | q | q
  · subst q; exact br_f (by decide) (br_t rfl ⟨ip, h⟩)
  · subst q
    refine br_f (by decide) (br_f (by decide) (br_t rfl ⟨ip, ?_⟩))
    have h : post (if x_classOf p = -1 then -1 else x_newNumber (hq_t (x_classOf p))) := h
    rcases hP with e | ⟨q, q10, e⟩
    · rw [if_pos e] at h; exact br_t e h
    · have ne : ¬ x_classOf p = -1 := by rw [e]; exact oI_n (by omega)
      rw [if_neg ne] at h
      exact br_f ne ⟨ip, by rw [e]; exact vp_in_nI q10 (by decide), h⟩
  · subst q; exact br_f (by decide) (br_f (by decide) (br_f (by decide) (br_t rfl ⟨ip, h⟩)))
  · subst q; exact br_f (by decide) (br_f (by decide) (br_f (by decide) (br_f (by decide) (br_t rfl ⟨ip, h⟩))))
  · subst q; exact br_f (by decide) (br_f (by decide) (br_f (by decide) (br_f (by decide) (br_f (by decide) (br_t rfl ⟨ip, h⟩)))))
  · subst q; exact br_f (by decide) (br_f (by decide) (br_f (by decide) (br_f (by decide) (br_f (by decide) (br_f (by decide) (br_t rfl ⟨ip, h⟩))))))
end
theorem i_vc_line {k : Nat} {u : SX} {v : SY} (I : i_Rel k u v) (hk : k + 5 ≤ 2560) (v1 : Int32) (v2 : Int32) (v3 : Int32) (v4 : Int32) : wpX_line (fun r => wpY_line (fun r' => r' = r ∧ i_Rel (k + 5) u v) v v1 v2 v3 v4) u v1 v2 v3 v4 := by
  obtain ⟨x_classCount, x_methodCount, x_ruleCount, x_isBuilt, x_faultPlace, x_namedClasses, x_madeClasses, x_namedMethods, x_liveMethods, x_depth, x_stepCount, x_outCount, x_traceCount, x_isInterfaceClass, x_chainOf, x_interfacesOf, x_ancestorsOf, x_homeOf, x_formOf, x_nameOf, x_lengthOf, x_opOf, x_classOf, x_numberOf, x_sourceMethod, x_sourceLine, x_callLine, x_ruleKind, x_ruleClasses, x_ruleNames, x_newNumber, x_familyOf, x_sightOf, x_frameRow, x_frameLine, x_frameHeld, x_outInts, x_traceMethod, x_traceLine⟩ := u; obtain ⟨y_classes, y_methods, y_rules, y_place, y_named, y_made, y_namedMethods, y_live, y_built, y_depth, y_steps, y_outs, y_ending, y_isInterface, y_isAbstract, y_parent, y_ancestors, y_own, y_many, y_home, y_name, y_length, y_op, y_first, y_second, y_ruleKind, y_ruleClasses, y_ruleNames, y_inlined, y_number, y_newName, y_family, y_vMethod, y_vLine, y_vHeld, y_put⟩ := v; have II := I; obtain ⟨C, M, R, t, o, rfl, rfl, rfl, rfl, rfl, rfl, rfl, rfl, rfl, rfl, rfl, rfl, rfl, rfl, rfl, rfl, rfl, rfl, rfl, rfl, rfl, ho, ht, hp, T, hb⟩ := (I : rl_p x_classCount x_methodCount x_ruleCount x_isBuilt x_faultPlace x_namedClasses x_madeClasses x_namedMethods x_liveMethods x_depth x_stepCount x_outCount x_traceCount x_isInterfaceClass x_chainOf x_interfacesOf x_ancestorsOf x_homeOf x_formOf x_nameOf x_lengthOf x_opOf x_classOf x_numberOf x_sourceMethod x_sourceLine x_callLine x_ruleKind x_ruleClasses x_ruleNames x_newNumber x_familyOf x_sightOf x_frameRow x_frameLine x_frameHeld x_outInts x_traceMethod x_traceLine y_classes y_methods y_rules y_place y_named y_made y_namedMethods y_live y_built y_depth y_steps y_outs y_ending y_isInterface y_isAbstract y_parent y_ancestors y_own y_many y_home y_name y_length y_op y_first y_second y_ruleKind y_ruleClasses y_ruleNames y_inlined y_number y_newName y_family y_vMethod y_vLine y_vHeld y_put)
  have h30 := T.2.2.1.1
  have h10 := T.1.1
  unfold wpX_line
  dsimp only
  refine br_c (fun b => xl_bad ?_) (fun b => ?_)
  · unfold wpY_line
    dsimp only
    refine br_t b ?_
    unfold wY_line_19
    exact yl_bad ⟨rfl, II⟩
  obtain ⟨⟨rfl, rfl, rfl, rfl⟩, b1, d1, kept, inl, NF, hI, hin, ml, xb, yn, yf, yw⟩ := hb b
  have hi : in_ok M inl y_length := in_il (fun m hm => (tp_len T hm).2.2) hI
  refine xcn_v h10 rfl (fun z => xl_bad ?_) (fun z => ?_)
  · unfold wpY_line
    dsimp only
    refine br_f b (br_t z ?_)
    unfold wY_line_19
    exact yl_bad ⟨rfl, II⟩
  have yl : ∀ {P : Int32 → Prop}, wY_line_20 P v2 v3 v4 (oI (sc_f (fun c => decide (x_newNumber c = v1)) C)) (nI C) (nI M) (nI R) x_faultPlace x_namedClasses x_madeClasses x_namedMethods x_liveMethods x_isBuilt (nI t) x_stepCount (nI o) y_ending x_isInterfaceClass y_isAbstract y_parent x_ancestorsOf x_interfacesOf y_many x_homeOf y_name y_length y_op y_first y_second x_ruleKind x_ruleClasses x_ruleNames y_inlined y_number y_newName y_family y_vMethod y_vLine y_vHeld x_outInts → wpY_line P (nI C, nI M, nI R, x_faultPlace, x_namedClasses, x_madeClasses, x_namedMethods, x_liveMethods, x_isBuilt, nI t, x_stepCount, nI o, y_ending, x_isInterfaceClass, y_isAbstract, y_parent, x_ancestorsOf, x_interfacesOf, y_many, x_homeOf, y_name, y_length, y_op, y_first, y_second, x_ruleKind, x_ruleClasses, x_ruleNames, y_inlined, y_number, y_newName, y_family, y_vMethod, y_vLine, y_vHeld, x_outInts) v1 v2 v3 v4 := fun h => by
    unfold wpY_line
    dsimp only
    refine br_f b (br_f z (ycn_v h10 rfl ?_))
    have e : sc_f (fun c => bt x_namedClasses c && decide (y_number c = v1)) C = sc_f (fun c => decide (x_newNumber c = v1)) C := sc_fc (fun c hc => by
      show (bt x_namedClasses c && decide (y_number c = v1)) = decide (x_newNumber c = v1)
      rw [xb.2.2.2.2.1 c hc, yn c hc]
      cases hn : bt x_namedClasses c
      · have e1 : nu_v kept x_namedClasses c = -1 := by
          unfold nu_v
          rw [if_neg (fun q => by rw [((xb.2.2.2.2.2 c).mp q).1] at hn; exact absurd hn (by decide)), if_neg (by rw [hn]; decide)]
        rw [e1, Bool.false_and, decide_eq_false (fun q => z (by rw [← q]; decide))]
      · rw [Bool.true_and])
    rw [e]
    exact h
  cases ec : sc_f (fun c => decide (x_newNumber c = v1)) C with
  | none =>
    refine xl_bad (yl ?_)
    rw [ec]
    exact yl_bad ⟨rfl, II⟩
  | some c =>
    have cC := (sc_fe ec).1
    have kl := fun m => kn_le (C := C) (M := M) (anc := x_ancestorsOf) (hom := x_homeOf) (nam := y_name) (N := x_namedClasses) (Q := x_namedMethods) m
    have hfam : ∀ m, m < M → ∃ f, f < 30 ∧ y_family m = nI f := fun m hm => ⟨_, by have := kl m; omega, yf m hm⟩
    have fz : ∀ m, m < M → (x_formOf (30 + m) = 0 ↔ ¬ bt x_namedMethods m = true) := fun m hm => by
      rw [xb.1 m hm]
      by_cases l : bt x_liveMethods m = true
      · rw [if_pos l]; exact ⟨fun q => absurd q (by decide), fun q => absurd (ml.1 m l) q⟩
      · rw [if_neg l]
        by_cases n : bt x_namedMethods m = true
        · rw [if_pos n]; exact ⟨fun q => absurd q (by decide), fun q => absurd n q⟩
        · rw [if_neg n]; exact ⟨fun _ => n, fun _ => rfl⟩
    have yl2 : ∀ {P : Int32 → Prop}, wY_line_38 P v3 v4 (oI (dc_v M x_homeOf (fun m => bt x_namedMethods m && decide (y_newName (hq_t (y_family m)) = v2)) c)) (nI C) (nI M) (nI R) x_faultPlace x_namedClasses x_madeClasses x_namedMethods x_liveMethods x_isBuilt (nI t) x_stepCount (nI o) y_ending x_isInterfaceClass y_isAbstract y_parent x_ancestorsOf x_interfacesOf y_many x_homeOf y_name y_length y_op y_first y_second x_ruleKind x_ruleClasses x_ruleNames y_inlined y_number y_newName y_family y_vMethod y_vLine y_vHeld x_outInts → wpY_line P (nI C, nI M, nI R, x_faultPlace, x_namedClasses, x_madeClasses, x_namedMethods, x_liveMethods, x_isBuilt, nI t, x_stepCount, nI o, y_ending, x_isInterfaceClass, y_isAbstract, y_parent, x_ancestorsOf, x_interfacesOf, y_many, x_homeOf, y_name, y_length, y_op, y_first, y_second, x_ruleKind, x_ruleClasses, x_ruleNames, y_inlined, y_number, y_newName, y_family, y_vMethod, y_vLine, y_vHeld, x_outInts) v1 v2 v3 v4 := fun h => by
      refine yl ?_
      rw [ec, oI_s]
      unfold wY_line_20
      exact br_t (nI_pos' (by omega)) (yst_v h30 rfl ml.1 (mh_10 T.2.2.1 h10) hfam (by omega) h)
    unfold wX_line_16
    rw [oI_s]
    refine br_f (oI_n (by omega)) ?_
    refine xm_v (w := 1) h30 (by decide) (by omega) (mh_10 T.2.2.1 h10) (fun m => bt x_namedMethods m && decide (y_newName (hq_t (y_family m)) = v2)) (fun m hm => ?_) rfl ?_
    · have kli := kl m
      rw [Nat.mul_one, bb_a, decide_eq_true_eq, xb.2.2.2.1 m hm, yf m hm, hq_e (by omega), yw _ (by omega), fz m hm]
      exact ⟨fun q => ⟨fun x => x q.1, q.2⟩, fun q => ⟨Decidable.byContradiction q.1, q.2⟩⟩
    cases ed : dc_v M x_homeOf (fun m => bt x_namedMethods m && decide (y_newName (hq_t (y_family m)) = v2)) c with
    | none =>
      refine br_t rfl (yl2 ?_)
      rw [ed]
      unfold wY_line_38
      exact br_t (by decide) ⟨rfl, II⟩
    | some m =>
      have hm := (sc_fe ed).1
      have l6 := (tp_len T hm).2.2
      have l2 := (tp_len T hm).2.1
      have p24 := po_24 hi h30 hm l6
      have lm := xb.2.1 m hm
      have i60 : vp_in (nI (30 + m)) 60 := vp_in_nI (by omega) (by decide)
      have i30 : vp_in (nI m) 30 := vp_in_nI (by omega) (by decide)
      have y38 : ∀ {P : Int32 → Prop}, ((¬ bt x_liveMethods m = true → P (-1)) ∧ (bt x_liveMethods m = true → ((v3 < 0 → P (-1)) ∧ (¬ v3 < 0 → wpY_in (fun r => (r = 0 → P (-1)) ∧ (¬ r = 0 → ∃ n83 : Nat, wY_line_83 P v4 (nI m) (nI C) (nI M) (nI R) x_faultPlace x_namedClasses x_madeClasses x_namedMethods x_liveMethods x_isBuilt (nI t) x_stepCount (nI o) y_ending x_isInterfaceClass y_isAbstract y_parent x_ancestorsOf x_interfacesOf y_many x_homeOf y_name y_length y_op y_first y_second x_ruleKind x_ruleClasses x_ruleNames y_inlined y_number y_newName y_family y_vMethod y_vLine y_vHeld x_outInts n83 v3 (nI (6 * m)))) v4 6)))) → wpY_line P (nI C, nI M, nI R, x_faultPlace, x_namedClasses, x_madeClasses, x_namedMethods, x_liveMethods, x_isBuilt, nI t, x_stepCount, nI o, y_ending, x_isInterfaceClass, y_isAbstract, y_parent, x_ancestorsOf, x_interfacesOf, y_many, x_homeOf, y_name, y_length, y_op, y_first, y_second, x_ruleKind, x_ruleClasses, x_ruleNames, y_inlined, y_number, y_newName, y_family, y_vMethod, y_vLine, y_vHeld, x_outInts) v1 v2 v3 v4 := fun h => by
        refine yl2 ?_
        rw [ed, oI_s]
        unfold wY_line_38
        refine br_f (nI_pos (by omega)) (yb_b (by omega) (fun l => br_c (fun q => (h.2 l).1 q) (fun q => ?_)) (fun l => h.1 l))
        have := (h.2 l).2 q
        rw [← nI_m6] at this
        refine yn_b (n := 6) (by decide) (fun j hj ej => nm_e ?_) (fun z => ?_)
        · unfold wpY_in at this
          rw [ej] at this ⊢
          have := (this.2 (nI_pos (by omega))).2 (nI_ge (b := 6) hj (by decide))
          exact this.2 (by decide)
        · unfold wpY_in at this
          rcases z with z | z
          · exact (this.1 z).1 rfl
          · exact ((this.2 (ix_0 (by decide) z)).1 z).1 rfl
      rw [oI_s, nI_b30, nI_c (show 30 + m < 10000 by omega)]
      refine br_f (oI_n (by omega)) ?_
      by_cases lv : bt x_liveMethods m = true
      · rw [if_pos lv] at lm
        rw [lm]
        rcases pk_ix v3 (n := po_n inl y_length m (hq_t (y_length m))) (by omega) with z3 | z3 | ⟨kk, hkk, rfl⟩
        · exact br_t z3 (y38 ⟨fun q => absurd lv q, fun _ => br_t z3 ⟨rfl, II⟩⟩)
        · have n3 : ¬ v3 < 0 := ix_0 (by omega) z3
          refine br_f n3 ⟨i60, br_f (ix_l z3) (y38 ⟨fun q => absurd lv q, fun _ => br_f n3 (yn_b (n := 6) (by decide) (fun w hw ew => ⟨hq_t (y_length m) + 1, ?_⟩) (fun _ => ⟨rfl, II⟩))⟩)⟩
          obtain ⟨kk, hkk, rfl⟩ := nI_of n3
          have hkl : po_n inl y_length m (hq_t (y_length m)) ≤ kk := (nI_leI (by omega) hkk).mp z3
          have lo : ∀ q x f, x + q = hq_t (y_length m) → q < f → wY_line_83 (fun r' => r' = -1 ∧ i_Rel (k + 5) (nI C, nI M, nI R, x_isBuilt, x_faultPlace, x_namedClasses, x_madeClasses, x_namedMethods, x_liveMethods, x_depth, x_stepCount, nI o, nI t, x_isInterfaceClass, x_chainOf, x_interfacesOf, x_ancestorsOf, x_homeOf, x_formOf, x_nameOf, x_lengthOf, x_opOf, x_classOf, x_numberOf, x_sourceMethod, x_sourceLine, x_callLine, x_ruleKind, x_ruleClasses, x_ruleNames, x_newNumber, x_familyOf, x_sightOf, x_frameRow, x_frameLine, x_frameHeld, x_outInts, x_traceMethod, x_traceLine) (nI C, nI M, nI R, x_faultPlace, x_namedClasses, x_madeClasses, x_namedMethods, x_liveMethods, x_isBuilt, nI t, x_stepCount, nI o, y_ending, x_isInterfaceClass, y_isAbstract, y_parent, x_ancestorsOf, x_interfacesOf, y_many, x_homeOf, y_name, y_length, y_op, y_first, y_second, x_ruleKind, x_ruleClasses, x_ruleNames, y_inlined, y_number, y_newName, y_family, y_vMethod, y_vLine, y_vHeld, x_outInts)) v4 (nI m) (nI C) (nI M) (nI R) x_faultPlace x_namedClasses x_madeClasses x_namedMethods x_liveMethods x_isBuilt (nI t) x_stepCount (nI o) y_ending x_isInterfaceClass y_isAbstract y_parent x_ancestorsOf x_interfacesOf y_many x_homeOf y_name y_length y_op y_first y_second x_ruleKind x_ruleClasses x_ruleNames y_inlined y_number y_newName y_family y_vMethod y_vLine y_vHeld x_outInts f (nI (kk - po_n inl y_length m x)) (nI (6 * m + x)) := by
            intro q
            induction q with
            | zero =>
              intro x f e hf
              obtain ⟨f, rfl⟩ : ∃ q, f = q + 1 := ⟨f - 1, by omega⟩
              rw [wY_line_83]
              refine ⟨i30, ?_⟩
              rw [nI_c (show m < 10000 by omega), l2, nI_a6]
              exact br_t (nI_le (by omega) (by omega)) ⟨rfl, II⟩
            | succ q ih =>
              intro x f e hf
              obtain ⟨f, rfl⟩ : ∃ q, f = q + 1 := ⟨f - 1, by omega⟩
              have mo : po_n inl y_length m (x + 1) ≤ po_n inl y_length m (hq_t (y_length m)) := ps_mo (gr := gy_n inl y_length m) (by omega)
              have es := po_s inl y_length m x
              have g1 : 1 ≤ gy_n inl y_length m x := by
                unfold gy_n; split <;> omega
              rw [wY_line_83]
              refine ⟨i30, ?_⟩
              rw [nI_c (show m < 10000 by omega), l2, nI_a6]
              refine br_f (nI_ge (by omega) (by omega)) (br_f (nI_ne0 (by omega) (by omega)) ?_)
              refine yg_v h30 (fun m hm => ⟨(tp_len T hm).2.1, (tp_len T hm).2.2⟩) hi hin hm (by omega) (br_t (nI_le (by omega) (by omega)) ?_)
              refine yg_v h30 (fun m hm => ⟨(tp_len T hm).2.1, (tp_len T hm).2.2⟩) hi hin hm (by omega) ?_
              refine nm_r (pk_sub (by omega)) (nm_r (nI_1 _) ?_)
              have := ih (x + 1) f (by omega) (by omega)
              rw [es, ← Nat.sub_sub] at this
              exact this
          have := lo (hq_t (y_length m)) 0 (hq_t (y_length m) + 1) (by omega) (by omega)
          exact this
        · have n3 : ¬ nI kk < 0 := nI_pos (by omega)
          have ip : vp_in (nI (24 * (30 + m) + kk)) 1440 := vp_in_nI (by omega) (by decide)
          refine br_f n3 ⟨i60, br_t (nI_lt hkk (by omega)) (nm_r (nI_a24 (30 + m) kk) ?_)⟩
          rw [nI_c (show 24 * (30 + m) + kk < 10000 by omega)]
          rcases pk_ix v4 (n := 6) (by decide) with z4 | z4 | ⟨w, hw, rfl⟩
          · exact br_t z4 (y38 ⟨fun q => absurd lv q, fun _ => br_f n3 (yn_b (n := 6) (by decide) (fun j hj e => absurd z4 (by rw [e]; exact nI_pos (by omega))) (fun _ => ⟨rfl, II⟩))⟩)
          · have z5 : 5 < v4 := by
              rw [Int32.le_iff_toInt_le] at z4
              rw [Int32.lt_iff_toInt_lt]
              have e1 : (5 : Int32).toInt = 5 := by decide
              have e2 : (nI 6).toInt = 6 := by decide
              omega
            exact br_f (ix_0 (by decide) z4) (br_t z5 (y38 ⟨fun q => absurd lv q, fun _ => br_f n3 (yn_b (n := 6) (by decide) (fun j hj e => absurd z4 (by rw [e]; exact nI_ge hj (by decide))) (fun _ => ⟨rfl, II⟩))⟩))
          · have cP := (ly_c T NF hi (fun m x hm hx n => by
                have l6 := (tp_len T hm).2.2
                rcases in_bl hI hm (show x < 6 by omega) with e | ⟨t, tM, et, _, ops, _⟩
                · rw [e] at n; exact absurd (by decide) n
                · exact ⟨t, tM, et, ops⟩) hm (fun x hx => xb.2.2.1 m hm lv x hx) hkk).1
            refine xl_w (post := fun r => wpY_line (fun r' => r' = r ∧ i_Rel (k + 5) (nI C, nI M, nI R, x_isBuilt, x_faultPlace, x_namedClasses, x_madeClasses, x_namedMethods, x_liveMethods, x_depth, x_stepCount, nI o, nI t, x_isInterfaceClass, x_chainOf, x_interfacesOf, x_ancestorsOf, x_homeOf, x_formOf, x_nameOf, x_lengthOf, x_opOf, x_classOf, x_numberOf, x_sourceMethod, x_sourceLine, x_callLine, x_ruleKind, x_ruleClasses, x_ruleNames, x_newNumber, x_familyOf, x_sightOf, x_frameRow, x_frameLine, x_frameHeld, x_outInts, x_traceMethod, x_traceLine) (nI C, nI M, nI R, x_faultPlace, x_namedClasses, x_madeClasses, x_namedMethods, x_liveMethods, x_isBuilt, nI t, x_stepCount, nI o, y_ending, x_isInterfaceClass, y_isAbstract, y_parent, x_ancestorsOf, x_interfacesOf, y_many, x_homeOf, y_name, y_length, y_op, y_first, y_second, x_ruleKind, x_ruleClasses, x_ruleNames, y_inlined, y_number, y_newName, y_family, y_vMethod, y_vLine, y_vHeld, x_outInts)) (nI C, nI M, nI R, x_faultPlace, x_namedClasses, x_madeClasses, x_namedMethods, x_liveMethods, x_isBuilt, nI t, x_stepCount, nI o, y_ending, x_isInterfaceClass, y_isAbstract, y_parent, x_ancestorsOf, x_interfacesOf, y_many, x_homeOf, y_name, y_length, y_op, y_first, y_second, x_ruleKind, x_ruleClasses, x_ruleNames, y_inlined, y_number, y_newName, y_family, y_vMethod, y_vLine, y_vHeld, x_outInts) v1 v2 (nI kk) (nI w)) (by omega) hw (cP.elim Or.inl (fun ⟨q, qC, e⟩ => Or.inr ⟨q, by omega, e⟩)) ?_
            refine y38 ⟨fun q => absurd lv q, fun _ => br_f n3 (yn_b (n := 6) (by decide) (fun _ _ _ => ⟨hq_t (y_length m) + 1, ?_⟩) (fun z => absurd z (fun y => y.elim (nI_pos (by omega)) (nI_ge hw (by decide)))))⟩
            generalize eV : xv_v x_opOf x_classOf x_numberOf x_sourceMethod x_sourceLine x_callLine x_newNumber (24 * (30 + m) + kk) w = V
            have lo : ∀ q x f, x + q = hq_t (y_length m) → q < f → po_n inl y_length m x ≤ kk → wY_line_83 (fun r' => r' = V ∧ i_Rel (k + 5) (nI C, nI M, nI R, x_isBuilt, x_faultPlace, x_namedClasses, x_madeClasses, x_namedMethods, x_liveMethods, x_depth, x_stepCount, nI o, nI t, x_isInterfaceClass, x_chainOf, x_interfacesOf, x_ancestorsOf, x_homeOf, x_formOf, x_nameOf, x_lengthOf, x_opOf, x_classOf, x_numberOf, x_sourceMethod, x_sourceLine, x_callLine, x_ruleKind, x_ruleClasses, x_ruleNames, x_newNumber, x_familyOf, x_sightOf, x_frameRow, x_frameLine, x_frameHeld, x_outInts, x_traceMethod, x_traceLine) (nI C, nI M, nI R, x_faultPlace, x_namedClasses, x_madeClasses, x_namedMethods, x_liveMethods, x_isBuilt, nI t, x_stepCount, nI o, y_ending, x_isInterfaceClass, y_isAbstract, y_parent, x_ancestorsOf, x_interfacesOf, y_many, x_homeOf, y_name, y_length, y_op, y_first, y_second, x_ruleKind, x_ruleClasses, x_ruleNames, y_inlined, y_number, y_newName, y_family, y_vMethod, y_vLine, y_vHeld, x_outInts)) (nI w) (nI m) (nI C) (nI M) (nI R) x_faultPlace x_namedClasses x_madeClasses x_namedMethods x_liveMethods x_isBuilt (nI t) x_stepCount (nI o) y_ending x_isInterfaceClass y_isAbstract y_parent x_ancestorsOf x_interfacesOf y_many x_homeOf y_name y_length y_op y_first y_second x_ruleKind x_ruleClasses x_ruleNames y_inlined y_number y_newName y_family y_vMethod y_vLine y_vHeld x_outInts f (nI (kk - po_n inl y_length m x)) (nI (6 * m + x)) := by
              intro q
              induction q with
              | zero =>
                intro x f e hf hx
                have e : x = hq_t (y_length m) := by omega
                rw [e] at hx; omega
              | succ q ih =>
                intro x f e hf hx
                obtain ⟨f, rfl⟩ : ∃ q, f = q + 1 := ⟨f - 1, by omega⟩
                have i180 : vp_in (nI (6 * m + x)) 180 := vp_in_nI (by omega) (by decide)
                have es := po_s inl y_length m x
                rw [wY_line_83]
                refine ⟨i30, ?_⟩
                rw [nI_c (show m < 10000 by omega), l2, nI_a6, nI_c (show 6 * m + x < 10000 by omega), hin m x hm (by omega)]
                refine br_f (nI_ge (by omega) (by omega)) (pk_eq (kk - po_n inl y_length m x) 0 (fun z => ⟨i180, ?_⟩) (fun z => ?_))
                · have ek : kk = po_n inl y_length m x := by omega
                  subst ek
                  obtain ⟨oo, g, o6, ey, hc, hg, val⟩ := lv_h T NF hI xb yn yf yw hm lv (show x < hq_t (y_length m) by omega)
                  have val := val w hw
                  rw [eV] at val
                  refine br_c (fun n => ?_) (fun n => ?_)
                  · rw [if_pos n] at val
                    unfold wY_line_124
                    exact ytv_v T rfl rfl hfam hm (by omega) ey o6 hw hc hg ⟨val.symm, II⟩
                  · rw [if_neg n] at val
                    unfold wY_line_124
                    exact ytv_v T rfl rfl hfam hm (by omega) ey o6 hw hc hg ⟨val.symm, II⟩
                · refine yg_v h30 (fun m hm => ⟨(tp_len T hm).2.1, (tp_len T hm).2.2⟩) hi hin hm (by omega) ?_
                  refine pk_le (gy_n inl y_length m x) (kk - po_n inl y_length m x) (fun le => ?_) (fun lt => ⟨i180, by decide, ?_⟩) rfl rfl (by have := gy_4 hi h30 hm x; omega) (by omega)
                  · refine yg_v h30 (fun m hm => ⟨(tp_len T hm).2.1, (tp_len T hm).2.2⟩) hi hin hm (by omega) ?_
                    refine nm_r (pk_sub (by omega)) (nm_r (nI_1 _) ?_)
                    have := ih (x + 1) f (by omega) (by omega) (by omega)
                    rw [es, ← Nat.sub_sub] at this
                    exact this
                  · by_cases n : inl (6 * m + x) < 0
                    · rw [gy_1 n] at lt; omega
                    · rw [gy_t (by omega) n] at lt
                      obtain ⟨j, ej⟩ : ∃ j, kk - po_n inl y_length m x = 1 + j := ⟨kk - po_n inl y_length m x - 1, by omega⟩
                      obtain ⟨s, oo, sM, es', j3, o05, ey, js, val⟩ := lv_i T hI xb hm lv (show x < hq_t (y_length m) by omega) n (j := j) (by omega) (y_newName (hq_t (y_family 0)))
                      have val := val w hw
                      have ek : 24 * (30 + m) + po_n inl y_length m x + 1 + j = 24 * (30 + m) + kk := by omega
                      rw [ek, eV] at val
                      rw [es', ej, nI_r6 (by omega), show (6 * m + x) % 6 = x from by omega, nI_a6, show nI (6 * s + (1 + j)) - 1 = nI (6 * s + j) from by
                        rw [show 6 * s + (1 + j) = 6 * s + j + 1 from by omega, nI_pred]]
                      exact ytv_v (g := 0) T rfl rfl hfam sM (by omega) ey (by omega) hw (fun a b => by omega) (fun a => by omega) ⟨val.symm, II⟩
            exact lo (hq_t (y_length m)) 0 _ (by omega) (by omega) (Nat.zero_le _)
      · rw [if_neg lv] at lm
        rw [lm]
        refine br_c (fun z3 => y38 ⟨fun _ => ⟨rfl, II⟩, fun q => absurd q lv⟩) (fun z3 => ⟨i60, br_f z3 (y38 ⟨fun _ => ⟨rfl, II⟩, fun q => absurd q lv⟩)⟩)
end
section
/-! ===== Y's moves ===== -/
section
variable {y_classes y_methods y_rules y_place y_named y_made y_namedMethods y_live y_built y_depth y_steps y_outs y_ending : Int32} {y_isInterface y_isAbstract y_parent y_ancestors y_own y_many y_home y_name y_length y_op y_first y_second y_ruleKind y_ruleClasses y_ruleNames y_inlined y_number y_newName y_family y_vMethod y_vLine y_vHeld y_put : Nat → Int32} {x_isInterfaceClass x_ancestorsOf x_interfacesOf x_homeOf x_ruleKind x_ruleClasses x_ruleNames : Nat → Int32} {C M w : Nat} {post : Int32 → SY → Prop} {s o e : Nat} {vm vl vh oi : Nat → Int32}
theorem y_go {n : Nat} (hw : w < 2) (h : ∀ P : SY → Prop, (∀ {y_classes y_methods y_rules y_place y_named y_made y_namedMethods y_live y_built y_depth y_steps y_outs y_ending : Int32} {y_isInterface y_isAbstract y_parent y_ancestors y_own y_many y_home y_name y_length y_op y_first y_second y_ruleKind y_ruleClasses y_ruleNames y_inlined y_number y_newName y_family y_vMethod y_vLine y_vHeld y_put : Nat → Int32}, wY_run_162 post (nI w) n y_classes y_methods y_rules y_place y_named y_made y_namedMethods y_live y_built y_depth y_steps y_outs y_ending y_isInterface y_isAbstract y_parent y_ancestors y_own y_many y_home y_name y_length y_op y_first y_second y_ruleKind y_ruleClasses y_ruleNames y_inlined y_number y_newName y_family y_vMethod y_vLine y_vHeld y_put → P (y_classes, y_methods, y_rules, y_place, y_named, y_made, y_namedMethods, y_live, y_built, y_depth, y_steps, y_outs, y_ending, y_isInterface, y_isAbstract, y_parent, y_ancestors, y_own, y_many, y_home, y_name, y_length, y_op, y_first, y_second, y_ruleKind, y_ruleClasses, y_ruleNames, y_inlined, y_number, y_newName, y_family, y_vMethod, y_vLine, y_vHeld, y_put)) → wpY_goOn P (nI C, nI M, y_rules, y_place, y_named, y_made, y_namedMethods, y_live, y_built, nI e, nI s, nI o, -1, x_isInterfaceClass, y_isAbstract, y_parent, x_ancestorsOf, x_interfacesOf, y_many, x_homeOf, y_name, y_length, y_op, y_first, y_second, x_ruleKind, x_ruleClasses, x_ruleNames, y_inlined, y_number, y_newName, y_family, vm, vl, vh, oi) (nI w)) : wY_run_162 post (nI w) (n + 1) (nI C) (nI M) y_rules y_place y_named y_made y_namedMethods y_live y_built (nI e) (nI s) (nI o) (-1) x_isInterfaceClass y_isAbstract y_parent x_ancestorsOf x_interfacesOf y_many x_homeOf y_name y_length y_op y_first y_second x_ruleKind x_ruleClasses x_ruleNames y_inlined y_number y_newName y_family vm vl vh oi := by
  rw [wY_run_162]
  refine br_f (by decide) ?_
  rcases (by omega : w = 0 ∨ w = 1) with z | z
  · subst z
    refine br_f (by decide) ?_
    unfold wY_run_180
    exact h _ (fun q => q)
  · subst z
    refine br_t rfl ?_
    unfold wY_run_180
    exact h _ (fun q => q)
/-- the end of a run -/
theorem y_end {x : Int32} (hx : 0 ≤ x) (hp : post x (nI C, nI M, y_rules, y_place, y_named, y_made, y_namedMethods, y_live, y_built, nI e, nI s, nI o, x, x_isInterfaceClass, y_isAbstract, y_parent, x_ancestorsOf, x_interfacesOf, y_many, x_homeOf, y_name, y_length, y_op, y_first, y_second, x_ruleKind, x_ruleClasses, x_ruleNames, y_inlined, y_number, y_newName, y_family, vm, vl, vh, oi)) : ∃ n, wY_run_162 post (nI w) n (nI C) (nI M) y_rules y_place y_named y_made y_namedMethods y_live y_built (nI e) (nI s) (nI o) x x_isInterfaceClass y_isAbstract y_parent x_ancestorsOf x_interfacesOf y_many x_homeOf y_name y_length y_op y_first y_second x_ruleKind x_ruleClasses x_ruleNames y_inlined y_number y_newName y_family vm vl vh oi := ⟨1, by
  rw [wY_run_162]
  exact br_t hx hp⟩
theorem y_done (hw : w < 2) (hp : post 0 (nI C, nI M, y_rules, y_place, y_named, y_made, y_namedMethods, y_live, y_built, nI 0, nI s, nI o, 0, x_isInterfaceClass, y_isAbstract, y_parent, x_ancestorsOf, x_interfacesOf, y_many, x_homeOf, y_name, y_length, y_op, y_first, y_second, x_ruleKind, x_ruleClasses, x_ruleNames, y_inlined, y_number, y_newName, y_family, vm, vl, vh, oi)) : ∃ n, wY_run_162 post (nI w) n (nI C) (nI M) y_rules y_place y_named y_made y_namedMethods y_live y_built (nI 0) (nI s) (nI o) (-1) x_isInterfaceClass y_isAbstract y_parent x_ancestorsOf x_interfacesOf y_many x_homeOf y_name y_length y_op y_first y_second x_ruleKind x_ruleClasses x_ruleNames y_inlined y_number y_newName y_family vm vl vh oi := by
  obtain ⟨n, hn⟩ := y_end (w := w) (x := 0) (by decide) hp
  refine ⟨n + 1, y_go hw (fun P hP => ?_)⟩
  unfold wpY_goOn
  dsimp only
  exact nm_e (br_t rfl (hP hn))
theorem y_pop (hw : w < 2) {m : Nat} (e8 : e < 8) (em : vm e = nI m) (m30 : m < 30) (fin : ¬ vl e < y_length m)
    (G : ∃ n, wY_run_162 post (nI w) n (nI C) (nI M) y_rules y_place y_named y_made y_namedMethods y_live y_built (nI e) (nI s) (nI o) (-1) x_isInterfaceClass y_isAbstract y_parent x_ancestorsOf x_interfacesOf y_many x_homeOf y_name y_length y_op y_first y_second x_ruleKind x_ruleClasses x_ruleNames y_inlined y_number y_newName y_family vm (if e = 0 then vl else upd vl (e - 1) (vl (e - 1) + 1)) vh oi) :
    ∃ n, wY_run_162 post (nI w) n (nI C) (nI M) y_rules y_place y_named y_made y_namedMethods y_live y_built (nI (e + 1)) (nI s) (nI o) (-1) x_isInterfaceClass y_isAbstract y_parent x_ancestorsOf x_interfacesOf y_many x_homeOf y_name y_length y_op y_first y_second x_ruleKind x_ruleClasses x_ruleNames y_inlined y_number y_newName y_family vm vl vh oi := by
  obtain ⟨n, hn⟩ := G
  refine ⟨n + 1, y_go hw (fun P hP => ?_)⟩
  have i8 : vp_in (nI e) 8 := vp_in_nI e8 (by decide)
  unfold wpY_goOn
  dsimp only
  refine nm_r (nI_pred e) (br_f (nI_ne0 (by omega) (by omega)) ⟨i8, i8, ?_⟩)
  rw [nI_c (show e < 10000 by omega), em, nI_c (show m < 10000 by omega)]
  refine ⟨vp_in_nI m30 (by decide), br_f fin (nm_r (nI_pred e) ?_)⟩
  rcases Nat.eq_zero_or_pos e with z | z
  · subst z
    rw [if_pos rfl] at hn
    exact br_t (by decide) (hP hn)
  · rw [if_neg (by omega)] at hn
    obtain ⟨f, rfl⟩ : ∃ f, e = f + 1 := ⟨e - 1, by omega⟩
    have i8' : vp_in (nI f) 8 := vp_in_nI (by omega) (by decide)
    rw [nI_pred, nI_c (show f < 10000 by omega)]
    exact br_f (nI_nle (by omega) (by omega)) ⟨i8', i8', nm_e (hP hn)⟩
theorem y_long (hw : w < 2) {m : Nat} (e8 : e < 8) (em : vm e = nI m) (m30 : m < 30) (un : vl e < y_length m) (s2 : s = 200) (hp : post 5 (nI C, nI M, y_rules, y_place, y_named, y_made, y_namedMethods, y_live, y_built, nI (e + 1), nI s, nI o, 5, x_isInterfaceClass, y_isAbstract, y_parent, x_ancestorsOf, x_interfacesOf, y_many, x_homeOf, y_name, y_length, y_op, y_first, y_second, x_ruleKind, x_ruleClasses, x_ruleNames, y_inlined, y_number, y_newName, y_family, vm, vl, vh, oi)) :
    ∃ n, wY_run_162 post (nI w) n (nI C) (nI M) y_rules y_place y_named y_made y_namedMethods y_live y_built (nI (e + 1)) (nI s) (nI o) (-1) x_isInterfaceClass y_isAbstract y_parent x_ancestorsOf x_interfacesOf y_many x_homeOf y_name y_length y_op y_first y_second x_ruleKind x_ruleClasses x_ruleNames y_inlined y_number y_newName y_family vm vl vh oi := by
  obtain ⟨n, hn⟩ := y_end (w := w) (x := 5) (by decide) hp
  refine ⟨n + 1, y_go hw (fun P hP => ?_)⟩
  have i8 : vp_in (nI e) 8 := vp_in_nI e8 (by decide)
  unfold wpY_goOn
  dsimp only
  refine nm_r (nI_pred e) (br_f (nI_ne0 (by omega) (by omega)) ⟨i8, i8, ?_⟩)
  rw [nI_c (show e < 10000 by omega), em, nI_c (show m < 10000 by omega)]
  exact ⟨vp_in_nI m30 (by decide), br_t un (br_t (by rw [s2]; rfl) (hP hn))⟩
theorem y_step (hw : w < 2) {m x : Nat} (e8 : e < 8) (em : vm e = nI m) (m30 : m < 30) (ex : vl e = nI x) (x6 : x < 6) (un : nI x < y_length m) (s2 : s < 200) {n : Nat}
    (h : ∀ P : SY → Prop, (∀ {y_classes y_methods y_rules y_place y_named y_made y_namedMethods y_live y_built y_depth y_steps y_outs y_ending : Int32} {y_isInterface y_isAbstract y_parent y_ancestors y_own y_many y_home y_name y_length y_op y_first y_second y_ruleKind y_ruleClasses y_ruleNames y_inlined y_number y_newName y_family y_vMethod y_vLine y_vHeld y_put : Nat → Int32}, wY_run_162 post (nI w) n y_classes y_methods y_rules y_place y_named y_made y_namedMethods y_live y_built y_depth y_steps y_outs y_ending y_isInterface y_isAbstract y_parent y_ancestors y_own y_many y_home y_name y_length y_op y_first y_second y_ruleKind y_ruleClasses y_ruleNames y_inlined y_number y_newName y_family y_vMethod y_vLine y_vHeld y_put → P (y_classes, y_methods, y_rules, y_place, y_named, y_made, y_namedMethods, y_live, y_built, y_depth, y_steps, y_outs, y_ending, y_isInterface, y_isAbstract, y_parent, y_ancestors, y_own, y_many, y_home, y_name, y_length, y_op, y_first, y_second, y_ruleKind, y_ruleClasses, y_ruleNames, y_inlined, y_number, y_newName, y_family, y_vMethod, y_vLine, y_vHeld, y_put)) → wpY_step P (nI C, nI M, y_rules, y_place, y_named, y_made, y_namedMethods, y_live, y_built, nI (e + 1), nI (s + 1), nI o, -1, x_isInterfaceClass, y_isAbstract, y_parent, x_ancestorsOf, x_interfacesOf, y_many, x_homeOf, y_name, y_length, y_op, y_first, y_second, x_ruleKind, x_ruleClasses, x_ruleNames, y_inlined, y_number, y_newName, y_family, vm, vl, vh, oi) (nI w) (nI e) (nI (6 * m + x))) :
    ∃ n, wY_run_162 post (nI w) n (nI C) (nI M) y_rules y_place y_named y_made y_namedMethods y_live y_built (nI (e + 1)) (nI s) (nI o) (-1) x_isInterfaceClass y_isAbstract y_parent x_ancestorsOf x_interfacesOf y_many x_homeOf y_name y_length y_op y_first y_second x_ruleKind x_ruleClasses x_ruleNames y_inlined y_number y_newName y_family vm vl vh oi := by
  refine ⟨n + 1, y_go hw (fun P hP => ?_)⟩
  have i8 : vp_in (nI e) 8 := vp_in_nI e8 (by decide)
  unfold wpY_goOn
  dsimp only
  refine nm_r (nI_pred e) (br_f (nI_ne0 (by omega) (by omega)) ⟨i8, i8, ?_⟩)
  rw [nI_c (show e < 10000 by omega), em, nI_c (show m < 10000 by omega), ex, nI_a6]
  exact ⟨vp_in_nI m30 (by decide), br_t un (br_f (fun z => by have := (nI_eq (a := s) (b := 200) (by omega) (by omega)).mp z; omega) (nm_r (nI_1 s) ⟨i8, i8, h _ (fun q => hP q)⟩))⟩
end
end
section

/-! ===== running: what both sides hold ===== -/
def sm_p (C M w : Nat) (inl ylen yop yfi yse F L O P N S U A yin : Nat → Int32) : Prop :=
  in_ok M inl ylen ∧ (∀ m, m < M → F (30 * w + m) = 2 → L (30 * w + m) = nI (po_n inl ylen m (hq_t (ylen m)))) ∧
  (∀ m x, m < M → F (30 * w + m) = 2 → x < hq_t (ylen m) → ∃ o, o < 6 ∧ yop (6 * m + x) = nI o ∧ (1 ≤ o → o ≤ 4 → ∃ c, c < C ∧ yfi (6 * m + x) = nI c) ∧
    S (24 * (30 * w + m) + po_n inl ylen m x) = nI m ∧ U (24 * (30 * w + m) + po_n inl ylen m x) = nI x ∧ A (24 * (30 * w + m) + po_n inl ylen m x) = -1 ∧
    (inl (6 * m + x) < 0 → O (24 * (30 * w + m) + po_n inl ylen m x) = nI o ∧ (1 ≤ o → o ≤ 4 → P (24 * (30 * w + m) + po_n inl ylen m x) = yfi (6 * m + x)) ∧ (o = 0 → N (24 * (30 * w + m) + po_n inl ylen m x) = yse (6 * m + x))) ∧
    (¬ inl (6 * m + x) < 0 → w = 1 ∧ yin (6 * m + x) = inl (6 * m + x) ∧ O (24 * (30 * w + m) + po_n inl ylen m x) = 6 ∧
      ((o = 2 ∧ P (24 * (30 * w + m) + po_n inl ylen m x) = yfi (6 * m + x)) ∨ (o = 3 ∧ P (24 * (30 * w + m) + po_n inl ylen m x) = -1)) ∧
      ∃ t, t < M ∧ inl (6 * m + x) = nI t ∧ hq_t (ylen t) ≤ 3 ∧ ∀ j, j < hq_t (ylen t) → ∃ q, (q = 0 ∨ q = 5) ∧ yop (6 * t + j) = nI q ∧
        O (24 * (30 * w + m) + po_n inl ylen m x + 1 + j) = nI q ∧ (q = 0 → N (24 * (30 * w + m) + po_n inl ylen m x + 1 + j) = yse (6 * t + j)) ∧
        S (24 * (30 * w + m) + po_n inl ylen m x + 1 + j) = nI t ∧ U (24 * (30 * w + m) + po_n inl ylen m x + 1 + j) = nI j ∧ A (24 * (30 * w + m) + po_n inl ylen m x + 1 + j) = nI x))
def fo_q (C M w : Nat) (inl ylen F fr fl fh vm vl vh : Nat → Int32) (k m x : Nat) : Prop :=
  m < M ∧ F (30 * w + m) = 2 ∧ fr k = nI (30 * w + m) ∧ vm k = nI m ∧ vl k = nI x ∧ fl k = nI (po_n inl ylen m x) ∧ fh k = vh k ∧ (vh k = -1 ∨ ∃ h, h < C ∧ vh k = nI h)
def lo_q (C M w : Nat) (inl ylen F fr fl fh vm vl vh : Nat → Int32) (d : Nat) : Prop :=
  ∀ k, k + 1 < d → ∃ m x, fo_q C M w inl ylen F fr fl fh vm vl vh k m x ∧ x < hq_t (ylen m) ∧ inl (6 * m + x) < 0
def s0_p (C M w : Nat) (inl ylen F fr fl fh vm vl vh : Nat → Int32) (d : Nat) : Prop :=
  d ≤ 8 ∧ lo_q C M w inl ylen F fr fl fh vm vl vh d ∧ (∀ k, k + 1 = d → ∃ m x, fo_q C M w inl ylen F fr fl fh vm vl vh k m x ∧ x ≤ hq_t (ylen m) + 1)
def s1_p (C M w : Nat) (inl ylen F fr fl fh vm vl vh : Nat → Int32) (k m x t j : Nat) : Prop :=
  k + 1 < 8 ∧ lo_q C M w inl ylen F fr fl fh vm vl vh (k + 1) ∧ m < M ∧ F (30 * w + m) = 2 ∧ x < hq_t (ylen m) ∧ inl (6 * m + x) = nI t ∧ t < M ∧ j < hq_t (ylen t) ∧
    fr k = nI (30 * w + m) ∧ vm k = nI m ∧ vl k = nI x ∧ fl k = nI (po_n inl ylen m x + 1 + j) ∧ fh k = vh k ∧ (vh k = -1 ∨ ∃ h, h < C ∧ vh k = nI h) ∧ vm (k + 1) = nI t ∧ vl (k + 1) = nI j ∧ (vh (k + 1) = -1 ∨ ∃ h, h < C ∧ vh (k + 1) = nI h)
theorem gy_g (inl ylen : Nat → Int32) (m x : Nat) : 1 ≤ gy_n inl ylen m x := by
  unfold gy_n; split <;> omega
theorem po_lt {inl ylen : Nat → Int32} {m x y : Nat} (h : x < y) : po_n inl ylen m x < po_n inl ylen m y := by
  have g := gy_g inl ylen m x
  have mo : po_n inl ylen m (x + 1) ≤ po_n inl ylen m y := ps_mo (gr := gy_n inl ylen m) h
  have e := po_s inl ylen m x
  omega
theorem fo_cg {C M w : Nat} {inl ylen F fr fl fh vm vl vh fr' fl' fh' vm' vl' vh' : Nat → Int32} {k m x : Nat} (h : fo_q C M w inl ylen F fr fl fh vm vl vh k m x)
    (e1 : fr' k = fr k) (e2 : fl' k = fl k) (e3 : fh' k = fh k) (e4 : vm' k = vm k) (e5 : vl' k = vl k) (e6 : vh' k = vh k) : fo_q C M w inl ylen F fr' fl' fh' vm' vl' vh' k m x := by
  unfold fo_q at h ⊢
  rw [e1, e2, e3, e4, e5, e6]
  exact h
theorem lo_cg {C M w : Nat} {inl ylen F fr fl fh vm vl vh fr' fl' fh' vm' vl' vh' : Nat → Int32} {d d' : Nat} (h : lo_q C M w inl ylen F fr fl fh vm vl vh d) (hd : d' ≤ d)
    (e1 : ∀ k, k + 1 < d' → fr' k = fr k) (e2 : ∀ k, k + 1 < d' → fl' k = fl k) (e3 : ∀ k, k + 1 < d' → fh' k = fh k) (e4 : ∀ k, k + 1 < d' → vm' k = vm k) (e5 : ∀ k, k + 1 < d' → vl' k = vl k) (e6 : ∀ k, k + 1 < d' → vh' k = vh k) :
    lo_q C M w inl ylen F fr' fl' fh' vm' vl' vh' d' := fun k hk => by
  obtain ⟨m, x, f, r⟩ := h k (by omega)
  exact ⟨m, x, fo_cg f (e1 k hk) (e2 k hk) (e3 k hk) (e4 k hk) (e5 k hk) (e6 k hk), r⟩
section
variable {x_classCount x_methodCount x_ruleCount x_isBuilt x_faultPlace x_namedClasses x_madeClasses x_namedMethods x_liveMethods x_depth x_stepCount x_outCount x_traceCount : Int32} {x_isInterfaceClass x_chainOf x_interfacesOf x_ancestorsOf x_homeOf x_formOf x_nameOf x_lengthOf x_opOf x_classOf x_numberOf x_sourceMethod x_sourceLine x_callLine x_ruleKind x_ruleClasses x_ruleNames x_newNumber x_familyOf x_sightOf x_frameRow x_frameLine x_frameHeld x_outInts x_traceMethod x_traceLine : Nat → Int32} {y_classes y_methods y_rules y_place y_named y_made y_namedMethods y_live y_built y_depth y_steps y_outs y_ending : Int32} {y_isInterface y_isAbstract y_parent y_ancestors y_own y_many y_home y_name y_length y_op y_first y_second y_ruleKind y_ruleClasses y_ruleNames y_inlined y_number y_newName y_family y_vMethod y_vLine y_vHeld y_put : Nat → Int32} {C M w s o : Nat} {inl vm vh oi : Nat → Int32}
/-- finished frames end -/
theorem xe_f (hw : w < 2) (h30 : M ≤ 30) (hl6 : ∀ m, m < M → y_length m = nI (hq_t (y_length m)) ∧ hq_t (y_length m) ≤ 6) (sm : sm_p C M w inl y_length y_op y_first y_second x_formOf x_lengthOf x_opOf x_classOf x_numberOf x_sourceMethod x_sourceLine x_callLine y_inlined) {post : SX → Prop} {GB : (Int32 → SY → Prop) → Prop}
    (K : ∀ d fl vl, s0_p C M w inl y_length x_formOf x_frameRow fl x_frameHeld vm vl vh d → (∀ k, k + 1 = d → ∃ m x, fo_q C M w inl y_length x_formOf x_frameRow fl x_frameHeld vm vl vh k m x ∧ x < hq_t (y_length m)) → (∀ ypost : Int32 → SY → Prop, (∃ n, wY_run_162 ypost (nI w) n (nI C) (nI M) y_rules y_place y_named y_made y_namedMethods y_live y_built (nI d) (nI s) (nI o) (-1) x_isInterfaceClass y_isAbstract y_parent x_ancestorsOf x_interfacesOf y_many x_homeOf y_name y_length y_op y_first y_second x_ruleKind x_ruleClasses x_ruleNames y_inlined y_number y_newName y_family vm vl vh oi) → GB ypost) → post (x_classCount, x_methodCount, x_ruleCount, x_isBuilt, x_faultPlace, x_namedClasses, x_madeClasses, x_namedMethods, x_liveMethods, nI d, x_stepCount, x_outCount, x_traceCount, x_isInterfaceClass, x_chainOf, x_interfacesOf, x_ancestorsOf, x_homeOf, x_formOf, x_nameOf, x_lengthOf, x_opOf, x_classOf, x_numberOf, x_sourceMethod, x_sourceLine, x_callLine, x_ruleKind, x_ruleClasses, x_ruleNames, x_newNumber, x_familyOf, x_sightOf, x_frameRow, fl, x_frameHeld, x_outInts, x_traceMethod, x_traceLine)) :
    ∀ d c fu fl vl, d + c ≤ 8 → d < fu → s0_p C M w inl y_length x_formOf x_frameRow fl x_frameHeld vm vl vh d → (∀ ypost : Int32 → SY → Prop, (∃ n, wY_run_162 ypost (nI w) n (nI C) (nI M) y_rules y_place y_named y_made y_namedMethods y_live y_built (nI d) (nI s) (nI o) (-1) x_isInterfaceClass y_isAbstract y_parent x_ancestorsOf x_interfacesOf y_many x_homeOf y_name y_length y_op y_first y_second x_ruleKind x_ruleClasses x_ruleNames y_inlined y_number y_newName y_family vm vl vh oi) → GB ypost) →
      wX_endFinished_2 post x_classCount x_methodCount x_ruleCount x_isBuilt x_faultPlace x_namedClasses x_madeClasses x_namedMethods x_liveMethods x_stepCount x_outCount x_traceCount fu (nI c) (nI d) x_isInterfaceClass x_chainOf x_interfacesOf x_ancestorsOf x_homeOf x_formOf x_nameOf x_lengthOf x_opOf x_classOf x_numberOf x_sourceMethod x_sourceLine x_callLine x_ruleKind x_ruleClasses x_ruleNames x_newNumber x_familyOf x_sightOf x_frameRow fl x_frameHeld x_outInts x_traceMethod x_traceLine := by
  intro d
  induction d with
  | zero =>
    intro c fu fl vl h8 hf s0 g
    obtain ⟨fu, rfl⟩ : ∃ q, fu = q + 1 := ⟨fu - 1, by omega⟩
    have fin := K 0 fl vl s0 (fun k hk => by omega) g
    rw [wX_endFinished_2]
    exact br_c (fun _ => fin) (fun _ => br_t (by decide) fin)
  | succ k ih =>
    intro c fu fl vl h8 hf s0 g
    obtain ⟨fu, rfl⟩ : ∃ q, fu = q + 1 := ⟨fu - 1, by omega⟩
    obtain ⟨m, x, fq, xl⟩ := s0.2.2 k rfl
    obtain ⟨mM, mF, f1, f2, f3, f4, f5, f6⟩ := fq
    have l6 := hl6 m mM
    have ik : vp_in (nI k) 8 := vp_in_nI (by omega) (by decide)
    have p24 := po_24 sm.1 h30 mM l6.2
    rw [wX_endFinished_2]
    refine br_f (nI_ge (b := 8) (by omega) (by decide)) (br_f (nI_nle (by omega) (by omega)) (nm_r (nI_pred k) ⟨ik, ik, ?_⟩))
    rw [nI_c (show k < 10000 by omega), f1, nI_c (show 30 * w + m < 10000 by omega), sm.2.1 m mM mF, f4]
    have px : po_n inl y_length m x ≤ 32 := by
      rcases Nat.lt_or_ge x (hq_t (y_length m)) with z | z
      · have := po_lt (inl := inl) (ylen := y_length) (m := m) z; omega
      · have := ps_4 (gy_4 sm.1 h30 mM) x
        have : po_n inl y_length m x ≤ 4 * x := this
        omega
    refine ⟨vp_in_nI (by omega) (by decide), pk_le (po_n inl y_length m (hq_t (y_length m))) (po_n inl y_length m x) (fun le => ?_) (fun lt => ?_)⟩
    · have xl2 : hq_t (y_length m) ≤ x := by
        rcases Nat.lt_or_ge x (hq_t (y_length m)) with z | z
        · have := po_lt (inl := inl) (ylen := y_length) (m := m) z; omega
        · exact z
      have pop : ∀ ypost : Int32 → SY → Prop, (∃ n, wY_run_162 ypost (nI w) n (nI C) (nI M) y_rules y_place y_named y_made y_namedMethods y_live y_built (nI k) (nI s) (nI o) (-1) x_isInterfaceClass y_isAbstract y_parent x_ancestorsOf x_interfacesOf y_many x_homeOf y_name y_length y_op y_first y_second x_ruleKind x_ruleClasses x_ruleNames y_inlined y_number y_newName y_family vm (if k = 0 then vl else upd vl (k - 1) (vl (k - 1) + 1)) vh oi) → GB ypost := fun yp h =>
        g yp (y_pop hw (by omega) f2 (by omega) (by rw [f3, l6.1]; exact nI_nlt xl2 (by omega)) h)
      refine nm_r (nI_pred k) ?_
      rcases Nat.eq_zero_or_pos k with z | z
      · subst z
        rw [if_pos rfl] at pop
        refine br_t (by decide) (nm_r (nI_1 c) (ih (c + 1) fu fl vl (by omega) (by omega) ⟨by omega, fun k hk => by omega, fun k hk => by omega⟩ pop))
      · obtain ⟨q, rfl⟩ : ∃ q, k = q + 1 := ⟨k - 1, by omega⟩
        rw [if_neg (by omega)] at pop
        obtain ⟨m', x', fq', x'l, x'n⟩ := s0.2.1 q (by omega)
        obtain ⟨mM', mF', g1, g2, g3, g4, g5, g6⟩ := fq'
        have iq : vp_in (nI q) 8 := vp_in_nI (by omega) (by decide)
        rw [nI_pred, nI_c (show q < 10000 by omega)]
        refine br_f (nI_nle (by omega) (by omega)) ⟨iq, iq, nm_e (nm_r (nI_1 c) (ih (c + 1) fu _ (upd vl q (vl q + 1)) (by omega) (by omega) ⟨by omega, ?_, fun k' hk' => ?_⟩ pop))⟩
        · exact lo_cg s0.2.1 (by omega) (fun _ _ => rfl) (fun k' hk' => pk_un (by omega)) (fun _ _ => rfl) (fun _ _ => rfl) (fun k' hk' => pk_un (by omega)) (fun _ _ => rfl)
        · have : k' = q := by omega
          subst this
          refine ⟨m', x' + 1, ⟨mM', mF', g1, g2, ?_, ?_, g5, g6⟩, by omega⟩
          · rw [pk_us, g3, nI_1]
          · rw [pk_us, g4, nI_1, po_s, gy_1 x'n]
    · have xl2 : x < hq_t (y_length m) := by
        rcases Nat.lt_or_ge x (hq_t (y_length m)) with z | z
        · exact z
        · have : po_n inl y_length m (hq_t (y_length m)) ≤ po_n inl y_length m x := ps_mo (gr := gy_n inl y_length m) z
          omega
      exact K (k + 1) fl vl s0 (fun k' hk' => by
        have : k' = k := by omega
        subst this
        exact ⟨m, x, ⟨mM, mF, f1, f2, f3, f4, f5, f6⟩, xl2⟩) g
end
end
section
/-! ===== running: calls, held objects ===== -/
def ft_v (M w : Nat) (anc chn hom F nm : Nat → Int32) (n : Int32) (h : Nat) : Option Nat :=
  match fd_v M anc chn hom (fun m => decide (¬ F (30 * w + m) = 0) && decide (nm (30 * w + m) = n)) h with
  | some g => if F (30 * w + g) = 2 then some g else none
  | none => none
section
variable {x_classCount x_methodCount x_ruleCount x_isBuilt x_faultPlace x_namedClasses x_madeClasses x_namedMethods x_liveMethods x_depth x_stepCount x_outCount x_traceCount : Int32} {x_isInterfaceClass x_chainOf x_interfacesOf x_ancestorsOf x_homeOf x_formOf x_nameOf x_lengthOf x_opOf x_classOf x_numberOf x_sourceMethod x_sourceLine x_callLine x_ruleKind x_ruleClasses x_ruleNames x_newNumber x_familyOf x_sightOf x_frameRow x_frameLine x_frameHeld x_outInts x_traceMethod x_traceLine : Nat → Int32} {y_classes y_methods y_rules y_place y_named y_made y_namedMethods y_live y_built y_depth y_steps y_outs y_ending : Int32} {y_isInterface y_isAbstract y_parent y_ancestors y_own y_many y_home y_name y_length y_op y_first y_second y_ruleKind y_ruleClasses y_ruleNames y_inlined y_number y_newName y_family y_vMethod y_vLine y_vHeld y_put : Nat → Int32} {C M R w s o k : Nat} {inl fr fl fh vm vl vh oi : Nat → Int32} {ypost : Int32 → SY → Prop} {P : Int32 → SX → Prop} {GB : Prop}
/-- a call in X -/
theorem ca_x (T : tp_p C M R x_isInterfaceClass x_ancestorsOf x_interfacesOf x_chainOf y_parent y_many x_homeOf x_ruleKind x_ruleClasses x_ruleNames x_formOf x_nameOf x_lengthOf y_isAbstract y_name y_length x_opOf x_classOf x_numberOf x_sourceMethod x_sourceLine x_callLine y_op y_first y_second) (hw : w < 2) (k8 : k < 8) {h : Nat} (hC : h < C) {n : Int32} (k3 : ft_v M w x_ancestorsOf x_chainOf x_homeOf x_formOf x_nameOf n h = none → P 3 (nI C, nI M, x_ruleCount, x_isBuilt, x_faultPlace, x_namedClasses, x_madeClasses, x_namedMethods, x_liveMethods, nI (k + 1), nI (s + 1), nI o, x_traceCount, x_isInterfaceClass, x_chainOf, x_interfacesOf, x_ancestorsOf, x_homeOf, x_formOf, x_nameOf, x_lengthOf, x_opOf, x_classOf, x_numberOf, x_sourceMethod, x_sourceLine, x_callLine, x_ruleKind, x_ruleClasses, x_ruleNames, x_newNumber, x_familyOf, x_sightOf, fr, fl, fh, oi, x_traceMethod, x_traceLine))
    (kg : ∀ g, g < M → x_formOf (30 * w + g) = 2 → ft_v M w x_ancestorsOf x_chainOf x_homeOf x_formOf x_nameOf n h = some g → (k + 1 = 8 → P 4 (nI C, nI M, x_ruleCount, x_isBuilt, x_faultPlace, x_namedClasses, x_madeClasses, x_namedMethods, x_liveMethods, nI (k + 1), nI (s + 1), nI o, x_traceCount, x_isInterfaceClass, x_chainOf, x_interfacesOf, x_ancestorsOf, x_homeOf, x_formOf, x_nameOf, x_lengthOf, x_opOf, x_classOf, x_numberOf, x_sourceMethod, x_sourceLine, x_callLine, x_ruleKind, x_ruleClasses, x_ruleNames, x_newNumber, x_familyOf, x_sightOf, fr, fl, fh, oi, x_traceMethod, x_traceLine)) ∧ (k + 1 < 8 → P (-1) (nI C, nI M, x_ruleCount, x_isBuilt, x_faultPlace, x_namedClasses, x_madeClasses, x_namedMethods, x_liveMethods, nI (k + 2), nI (s + 1), nI o, x_traceCount, x_isInterfaceClass, x_chainOf, x_interfacesOf, x_ancestorsOf, x_homeOf, x_formOf, x_nameOf, x_lengthOf, x_opOf, x_classOf, x_numberOf, x_sourceMethod, x_sourceLine, x_callLine, x_ruleKind, x_ruleClasses, x_ruleNames, x_newNumber, x_familyOf, x_sightOf, upd fr (k + 1) (nI (30 * w + g)), upd fl (k + 1) 0, upd fh (k + 1) (fh k), oi, x_traceMethod, x_traceLine))) :
    wpX_find (fun r => wpX_invoke P (nI C, nI M, x_ruleCount, x_isBuilt, x_faultPlace, x_namedClasses, x_madeClasses, x_namedMethods, x_liveMethods, nI (k + 1), nI (s + 1), nI o, x_traceCount, x_isInterfaceClass, x_chainOf, x_interfacesOf, x_ancestorsOf, x_homeOf, x_formOf, x_nameOf, x_lengthOf, x_opOf, x_classOf, x_numberOf, x_sourceMethod, x_sourceLine, x_callLine, x_ruleKind, x_ruleClasses, x_ruleNames, x_newNumber, x_familyOf, x_sightOf, fr, fl, fh, oi, x_traceMethod, x_traceLine) (nI w) r) (nI C, nI M, x_ruleCount, x_isBuilt, x_faultPlace, x_namedClasses, x_madeClasses, x_namedMethods, x_liveMethods, nI (k + 1), nI (s + 1), nI o, x_traceCount, x_isInterfaceClass, x_chainOf, x_interfacesOf, x_ancestorsOf, x_homeOf, x_formOf, x_nameOf, x_lengthOf, x_opOf, x_classOf, x_numberOf, x_sourceMethod, x_sourceLine, x_callLine, x_ruleKind, x_ruleClasses, x_ruleNames, x_newNumber, x_familyOf, x_sightOf, fr, fl, fh, oi, x_traceMethod, x_traceLine) (nI w) (nI h) n := by
  have h30 := T.2.2.1.1
  have h10 := T.1.1
  refine xf_v (w := w) T.1.1 T.2.2.1 hw hC (fun i => (T.1.2 h hC).2.2.2.1 i) (fun m => decide (¬ x_formOf (30 * w + m) = 0) && decide (x_nameOf (30 * w + m) = n)) (fun m hm => by rw [bb_a, decide_eq_true_eq, decide_eq_true_eq]) rfl ?_
  unfold wpX_invoke
  dsimp only
  cases e : fd_v M x_ancestorsOf x_chainOf x_homeOf (fun m => decide (¬ x_formOf (30 * w + m) = 0) && decide (x_nameOf (30 * w + m) = n)) h with
  | none =>
    refine br_t rfl (k3 ?_)
    unfold ft_v
    rw [e]
  | some g =>
    have gM := (fd_s T.1 hC e).1
    rw [oI_s, nI_a30, nI_c (show 30 * w + g < 10000 by omega)]
    refine br_f (oI_n (by omega)) ⟨vp_in_nI (by omega) (by decide), br_c (fun f2 => ?_) (fun f2 => k3 ?_)⟩
    · have ft : ft_v M w x_ancestorsOf x_chainOf x_homeOf x_formOf x_nameOf n h = some g := by
        unfold ft_v
        rw [e]
        exact if_pos f2
      obtain ⟨a4, ap⟩ := kg g gM f2 ft
      refine pk_eq (k + 1) 8 (fun z => a4 z) (fun z => ?_)
      have i8 : vp_in (nI (k + 1)) 8 := vp_in_nI (by omega) (by decide)
      have ik : vp_in (nI k) 8 := vp_in_nI (by omega) (by decide)
      rw [nI_c (show k + 1 < 10000 by omega), nI_pred, nI_c (show k < 10000 by omega)]
      exact ⟨i8, nm_e ⟨i8, nm_e ⟨ik, i8, nm_e (nm_r (nI_1 (k + 1)) (ap (by omega)))⟩⟩⟩
    · unfold ft_v
      rw [e]
      exact if_neg f2
/-- a call in Y -/
theorem ca_y {Q : SY → Prop} (k8 : k < 8) {f : Option Nat} (hf : ∀ g, f = some g → g < 30) (a3 : f = none → Q (nI C, nI M, y_rules, y_place, y_named, y_made, y_namedMethods, y_live, y_built, nI (k + 1), nI (s + 1), nI o, 3, x_isInterfaceClass, y_isAbstract, y_parent, x_ancestorsOf, x_interfacesOf, y_many, x_homeOf, y_name, y_length, y_op, y_first, y_second, x_ruleKind, x_ruleClasses, x_ruleNames, y_inlined, y_number, y_newName, y_family, vm, vl, vh, oi))
    (a4 : ∀ g, f = some g → k + 1 = 8 → Q (nI C, nI M, y_rules, y_place, y_named, y_made, y_namedMethods, y_live, y_built, nI (k + 1), nI (s + 1), nI o, 4, x_isInterfaceClass, y_isAbstract, y_parent, x_ancestorsOf, x_interfacesOf, y_many, x_homeOf, y_name, y_length, y_op, y_first, y_second, x_ruleKind, x_ruleClasses, x_ruleNames, y_inlined, y_number, y_newName, y_family, vm, vl, vh, oi))
    (ap : ∀ g, f = some g → k + 1 < 8 → Q (nI C, nI M, y_rules, y_place, y_named, y_made, y_namedMethods, y_live, y_built, nI (k + 2), nI (s + 1), nI o, -1, x_isInterfaceClass, y_isAbstract, y_parent, x_ancestorsOf, x_interfacesOf, y_many, x_homeOf, y_name, y_length, y_op, y_first, y_second, x_ruleKind, x_ruleClasses, x_ruleNames, y_inlined, y_number, y_newName, y_family, upd vm (k + 1) (nI g), upd vl (k + 1) 0, upd vh (k + 1) (vh k), oi)) :
    wY_call_87 Q (oI f) (nI C) (nI M) y_rules y_place y_named y_made y_namedMethods y_live y_built (nI (k + 1)) (nI (s + 1)) (nI o) (-1) x_isInterfaceClass y_isAbstract y_parent x_ancestorsOf x_interfacesOf y_many x_homeOf y_name y_length y_op y_first y_second x_ruleKind x_ruleClasses x_ruleNames y_inlined y_number y_newName y_family vm vl vh oi := by
  unfold wY_call_87
  cases f with
  | none => exact br_f (by decide) (a3 rfl)
  | some g =>
    have g30 := hf g rfl
    have ik : vp_in (nI k) 8 := vp_in_nI (by omega) (by decide)
    rw [oI_s, nI_pred, nI_c (show k < 10000 by omega)]
    refine br_t (nI_pos' (by omega)) ⟨ik, ?_⟩
    unfold wpY_begin
    dsimp only
    refine pk_eq (k + 1) 8 (fun z => a4 g rfl z) (fun z => ?_)
    have i8 : vp_in (nI (k + 1)) 8 := vp_in_nI (by omega) (by decide)
    rw [nI_c (show k + 1 < 10000 by omega)]
    exact ⟨i8, nm_e ⟨i8, nm_e ⟨i8, nm_e (nm_r (nI_1 (k + 1)) (ap g rfl (by omega)))⟩⟩⟩
theorem xi_b (h10 : C ≤ 10) (k8 : k < 8) {c : Nat} (hc : c < C) (hh : fh k = -1 ∨ ∃ h, h < C ∧ fh k = nI h) {A B : Prop} (t : ∀ h, h < C → fh k = nI h → bt (x_ancestorsOf h) c = true → B) (f : ¬ (∃ h, h < C ∧ fh k = nI h ∧ bt (x_ancestorsOf h) c = true) → A) :
    wpX_isHeld (fun r => (r = 0 → A) ∧ (¬ r = 0 → B)) (nI C, nI M, x_ruleCount, x_isBuilt, x_faultPlace, x_namedClasses, x_madeClasses, x_namedMethods, x_liveMethods, nI (k + 1), nI (s + 1), nI o, x_traceCount, x_isInterfaceClass, x_chainOf, x_interfacesOf, x_ancestorsOf, x_homeOf, x_formOf, x_nameOf, x_lengthOf, x_opOf, x_classOf, x_numberOf, x_sourceMethod, x_sourceLine, x_callLine, x_ruleKind, x_ruleClasses, x_ruleNames, x_newNumber, x_familyOf, x_sightOf, fr, fl, fh, oi, x_traceMethod, x_traceLine) (nI c) := by
  have ik : vp_in (nI k) 8 := vp_in_nI (by omega) (by decide)
  unfold wpX_isHeld
  dsimp only
  rw [nI_pred, nI_c (show k < 10000 by omega)]
  refine ⟨ik, ?_⟩
  rcases hh with e | ⟨h, hC, e⟩
  · refine nm_r e (br_t rfl (br_0 (f ?_)))
    rintro ⟨h, hC, e', _⟩
    rw [e] at e'
    exact oI_n (by omega) e'.symm
  · refine nm_r e (br_f (oI_n (by omega)) ?_)
    refine xd_b (by omega) (by omega) (fun b => br_1 (t h hC e b)) (fun b => br_0 (f ?_))
    rintro ⟨h', hC', e', b'⟩
    rw [e] at e'
    have : h = h' := (nI_eq (by omega) (by omega)).mp e'
    subst this; exact b b'
/-- does the held object fit, in Y -/
theorem ys_b {Q : SY → Prop} (h10 : C ≤ 10) (k8 : k < 8) {j q : Nat} (hj : j < 180) (ho : y_op j = nI q) (q6 : q < 6) (hc : 1 ≤ q → q ≤ 4 → ∃ c, c < C ∧ y_first j = nI c) (hh : vh k = -1 ∨ ∃ h, h < C ∧ vh k = nI h)
    (t : ∀ h, h < C → vh k = nI h → 1 ≤ q → q ≤ 4 → bt (x_ancestorsOf h) (hq_t (y_first j)) = true → wY_step_60 Q (nI w) (nI k) (nI j) (y_first j) (nI h) 1 (nI C) (nI M) y_rules y_place y_named y_made y_namedMethods y_live y_built (nI (k + 1)) (nI (s + 1)) (nI o) (-1) x_isInterfaceClass y_isAbstract y_parent x_ancestorsOf x_interfacesOf y_many x_homeOf y_name y_length y_op y_first y_second x_ruleKind x_ruleClasses x_ruleNames y_inlined y_number y_newName y_family vm vl vh oi)
    (f : ¬ (∃ h, h < C ∧ vh k = nI h ∧ 1 ≤ q ∧ q ≤ 4 ∧ bt (x_ancestorsOf h) (hq_t (y_first j)) = true) → wY_step_60 Q (nI w) (nI k) (nI j) (y_first j) (vh k) 0 (nI C) (nI M) y_rules y_place y_named y_made y_namedMethods y_live y_built (nI (k + 1)) (nI (s + 1)) (nI o) (-1) x_isInterfaceClass y_isAbstract y_parent x_ancestorsOf x_interfacesOf y_many x_homeOf y_name y_length y_op y_first y_second x_ruleKind x_ruleClasses x_ruleNames y_inlined y_number y_newName y_family vm vl vh oi) : wpY_step Q (nI C, nI M, y_rules, y_place, y_named, y_made, y_namedMethods, y_live, y_built, nI (k + 1), nI (s + 1), nI o, -1, x_isInterfaceClass, y_isAbstract, y_parent, x_ancestorsOf, x_interfacesOf, y_many, x_homeOf, y_name, y_length, y_op, y_first, y_second, x_ruleKind, x_ruleClasses, x_ruleNames, y_inlined, y_number, y_newName, y_family, vm, vl, vh, oi) (nI w) (nI k) (nI j) := by
  have ik : vp_in (nI k) 8 := vp_in_nI (by omega) (by decide)
  have ij : vp_in (nI j) 180 := vp_in_nI hj (by decide)
  have f' : ¬ (∃ h, h < C ∧ vh k = nI h ∧ 1 ≤ q ∧ q ≤ 4 ∧ bt (x_ancestorsOf h) (hq_t (y_first j)) = true) → wY_step_59 Q (nI w) (nI k) (nI j) (y_first j) (vh k) (nI C) (nI M) y_rules y_place y_named y_made y_namedMethods y_live y_built (nI (k + 1)) (nI (s + 1)) (nI o) (-1) x_isInterfaceClass y_isAbstract y_parent x_ancestorsOf x_interfacesOf y_many x_homeOf y_name y_length y_op y_first y_second x_ruleKind x_ruleClasses x_ruleNames y_inlined y_number y_newName y_family vm vl vh oi := fun z => by
    unfold wY_step_59
    exact f z
  unfold wpY_step
  dsimp only
  rw [nI_c (show j < 10000 by omega), nI_c (show k < 10000 by omega)]
  refine ⟨ij, nm_e ⟨ik, nm_e ?_⟩⟩
  rcases hh with e | ⟨h, hC, e⟩
  · refine br_t (by rw [e]; decide) (f' ?_)
    rintro ⟨h, hC, e', _⟩
    rw [e] at e'
    exact oI_n (by omega) e'.symm
  · have ih : vp_in (nI h) 10 := vp_in_nI (by omega) (by decide)
    refine br_f (by rw [e]; exact nI_pos (by omega)) ⟨ij, ?_⟩
    rw [ho]
    refine pk_eq q 0 (fun z => f' ?_) (fun z0 => ⟨ij, pk_eq q 5 (fun z => f' ?_) (fun z5 => ⟨by rw [e]; exact ih, ?_⟩)⟩)
    · rintro ⟨_, _, _, a, _⟩; omega
    · rintro ⟨_, _, _, _, a, _⟩; omega
    · obtain ⟨c, cC, ec⟩ := hc (by omega) (by omega)
      rw [e, nI_c (show h < 10000 by omega)]
      have hce : hq_t (y_first j) = c := by rw [ec]; exact hq_e (by omega)
      rw [ec]
      refine yb_b (by omega) (fun b => ?_) (fun b => ?_)
      · have := t h hC e (by omega) (by omega) (by rw [hce]; exact b)
        rw [ec] at this; exact this
      · have := f' (by
          rintro ⟨h', hC', e', _, _, b'⟩
          rw [e] at e'
          have : h = h' := (nI_eq (by omega) (by omega)).mp e'
          subst this
          rw [hce] at b'; exact b b')
        rw [ec, e] at this; exact this
end
end
section
/-! ===== running: one instruction ===== -/
section
variable {x_classCount x_methodCount x_ruleCount x_isBuilt x_faultPlace x_namedClasses x_madeClasses x_namedMethods x_liveMethods x_depth x_stepCount x_outCount x_traceCount : Int32} {x_isInterfaceClass x_chainOf x_interfacesOf x_ancestorsOf x_homeOf x_formOf x_nameOf x_lengthOf x_opOf x_classOf x_numberOf x_sourceMethod x_sourceLine x_callLine x_ruleKind x_ruleClasses x_ruleNames x_newNumber x_familyOf x_sightOf x_frameRow x_frameLine x_frameHeld x_outInts x_traceMethod x_traceLine : Nat → Int32} {y_classes y_methods y_rules y_place y_named y_made y_namedMethods y_live y_built y_depth y_steps y_outs y_ending : Int32} {y_isInterface y_isAbstract y_parent y_ancestors y_own y_many y_home y_name y_length y_op y_first y_second y_ruleKind y_ruleClasses y_ruleNames y_inlined y_number y_newName y_family y_vMethod y_vLine y_vHeld y_put : Nat → Int32} {C M R w s o k : Nat} {inl fr fl fh vm vl vh oi : Nat → Int32} {P : Int32 → SX → Prop} {GB : (Int32 → SY → Prop) → Prop}
theorem ft_M (T : tp_p C M R x_isInterfaceClass x_ancestorsOf x_interfacesOf x_chainOf y_parent y_many x_homeOf x_ruleKind x_ruleClasses x_ruleNames x_formOf x_nameOf x_lengthOf y_isAbstract y_name y_length x_opOf x_classOf x_numberOf x_sourceMethod x_sourceLine x_callLine y_op y_first y_second) {n : Int32} {h : Nat} (hC : h < C) : ∀ g, ft_v M w x_ancestorsOf x_chainOf x_homeOf x_formOf x_nameOf n h = some g → g < 30 := fun g e => by
  have h30 := T.2.2.1.1
  unfold ft_v at e
  cases e' : fd_v M x_ancestorsOf x_chainOf x_homeOf (fun m => decide (¬ x_formOf (30 * w + m) = 0) && decide (x_nameOf (30 * w + m) = n)) h with
  | none => rw [e'] at e; exact absurd e (by simp)
  | some g' =>
    rw [e'] at e
    have gM := (fd_s T.1 hC e').1
    have e : (if x_formOf (30 * w + g') = 2 then some g' else none) = some g := e
    by_cases z : x_formOf (30 * w + g') = 2
    · rw [if_pos z] at e
      have : g' = g := by simpa using e
      omega
    · rw [if_neg z] at e; exact absurd e (by simp)
/-- TEST that doesn't fit: what comes next is left out -/
theorem xn_v (sm : sm_p C M w inl y_length y_op y_first y_second x_formOf x_lengthOf x_opOf x_classOf x_numberOf x_sourceMethod x_sourceLine x_callLine y_inlined) (h30 : M ≤ 30) (hl6 : ∀ m, m < M → y_length m = nI (hq_t (y_length m)) ∧ hq_t (y_length m) ≤ 6) (hw : w < 2) (k8 : k < 8) {m x : Nat} (mM : m < M) (mF : x_formOf (30 * w + m) = 2) (f1 : fr k = nI (30 * w + m)) (f4 : fl k = nI (po_n inl y_length m x)) (xl : x < hq_t (y_length m)) (n : inl (6 * m + x) < 0)
    {post : SX → Prop} (K : ∀ fl', (∀ j, j ≠ k → fl' j = fl j) → fl' k + 1 = nI (po_n inl y_length m (x + 2)) → post (nI C, nI M, x_ruleCount, x_isBuilt, x_faultPlace, x_namedClasses, x_madeClasses, x_namedMethods, x_liveMethods, nI (k + 1), nI (s + 1), nI o, x_traceCount, x_isInterfaceClass, x_chainOf, x_interfacesOf, x_ancestorsOf, x_homeOf, x_formOf, x_nameOf, x_lengthOf, x_opOf, x_classOf, x_numberOf, x_sourceMethod, x_sourceLine, x_callLine, x_ruleKind, x_ruleClasses, x_ruleNames, x_newNumber, x_familyOf, x_sightOf, fr, fl', fh, oi, x_traceMethod, x_traceLine)) : wpX_leaveNextOut post (nI C, nI M, x_ruleCount, x_isBuilt, x_faultPlace, x_namedClasses, x_madeClasses, x_namedMethods, x_liveMethods, nI (k + 1), nI (s + 1), nI o, x_traceCount, x_isInterfaceClass, x_chainOf, x_interfacesOf, x_ancestorsOf, x_homeOf, x_formOf, x_nameOf, x_lengthOf, x_opOf, x_classOf, x_numberOf, x_sourceMethod, x_sourceLine, x_callLine, x_ruleKind, x_ruleClasses, x_ruleNames, x_newNumber, x_familyOf, x_sightOf, fr, fl, fh, oi, x_traceMethod, x_traceLine) := by
  have l6 := (hl6 m mM).2
  have p24 := po_24 sm.1 h30 mM l6
  have ik : vp_in (nI k) 8 := vp_in_nI (by omega) (by decide)
  have ir : vp_in (nI (30 * w + m)) 60 := vp_in_nI (by omega) (by decide)
  have e1 : po_n inl y_length m (x + 1) = po_n inl y_length m x + 1 := by rw [po_s, gy_1 n]
  have e2 : po_n inl y_length m (x + 2) = po_n inl y_length m (x + 1) + gy_n inl y_length m (x + 1) := po_s _ _ _ _
  have g1 := gy_g inl y_length m (x + 1)
  have g4 := gy_4 sm.1 h30 mM (x + 1)
  have plen := sm.2.1 m mM mF
  have mo : po_n inl y_length m (x + 1) ≤ po_n inl y_length m (hq_t (y_length m)) := ps_mo (gr := gy_n inl y_length m) xl
  -- the call line of the cell behind a advances
  have cell : ∀ a, a + 1 < gy_n inl y_length m (x + 1) → po_n inl y_length m (x + 1) + a + 1 < po_n inl y_length m (hq_t (y_length m)) ∧ x_callLine (24 * (30 * w + m) + (po_n inl y_length m (x + 1) + a + 1)) = nI (x + 1) := fun a ha => by
    have xl2 : x + 1 < hq_t (y_length m) := by
      rcases Nat.lt_or_ge (x + 1) (hq_t (y_length m)) with z | z
      · exact z
      · have : gy_n inl y_length m (x + 1) = 1 := if_neg (fun q => by omega)
        omega
    have nn : ¬ inl (6 * m + (x + 1)) < 0 := fun q => by rw [gy_1 q] at ha; omega
    have mo2 : po_n inl y_length m (x + 2) ≤ po_n inl y_length m (hq_t (y_length m)) := ps_mo (gr := gy_n inl y_length m) xl2
    obtain ⟨q, q6, ey, hc, cS, cU, cA, cn, ci⟩ := sm.2.2 m (x + 1) mM mF xl2
    obtain ⟨_, _, _, _, t, tM, et, l3, lines⟩ := ci nn
    have ht : hq_t (inl (6 * m + (x + 1))) = t := by rw [et]; exact hq_e (by omega)
    have ha0 := ha
    rw [gy_t xl2 nn, ht] at ha
    obtain ⟨_, _, _, _, _, _, _, r6⟩ := lines a (by omega)
    refine ⟨by omega, ?_⟩
    have ee : 24 * (30 * w + m) + (po_n inl y_length m (x + 1) + a + 1) = 24 * (30 * w + m) + po_n inl y_length m (x + 1) + 1 + a := by omega
    rw [ee]; exact r6
  have stop : ∀ a, a + 1 = gy_n inl y_length m (x + 1) → po_n inl y_length m (hq_t (y_length m)) ≤ po_n inl y_length m (x + 1) + a + 1 ∨ (po_n inl y_length m (x + 1) + a + 1 < po_n inl y_length m (hq_t (y_length m)) ∧ x_callLine (24 * (30 * w + m) + (po_n inl y_length m (x + 1) + a + 1)) = -1) := fun a ha => by
    rcases Nat.lt_or_ge (x + 2) (hq_t (y_length m)) with z | z
    · have := po_lt (inl := inl) (ylen := y_length) (m := m) z
      obtain ⟨q, q6, ey, hc, cS, cU, cA, cn, ci⟩ := sm.2.2 m (x + 2) mM mF z
      refine Or.inr ⟨by omega, ?_⟩
      have ee : po_n inl y_length m (x + 1) + a + 1 = po_n inl y_length m (x + 2) := by omega
      rw [ee]; exact cA
    · refine Or.inl ?_
      have : po_n inl y_length m (hq_t (y_length m)) ≤ po_n inl y_length m (x + 2) := ps_mo (gr := gy_n inl y_length m) z
      omega
  have lo : ∀ q i a f fl', i + q = 3 → q < f → (a = gy_n inl y_length m (x + 1) - 1 ∨ (a = i ∧ a + 1 < gy_n inl y_length m (x + 1))) → (∀ j, j ≠ k → fl' j = fl j) → fl' k = nI (po_n inl y_length m (x + 1) + a) →
      wX_leaveNextOut_26 post (nI k) (nI (30 * w + m)) (nI C) (nI M) x_ruleCount x_isBuilt x_faultPlace x_namedClasses x_madeClasses x_namedMethods x_liveMethods (nI (k + 1)) (nI (s + 1)) (nI o) x_traceCount f (nI i) x_isInterfaceClass x_chainOf x_interfacesOf x_ancestorsOf x_homeOf x_formOf x_nameOf x_lengthOf x_opOf x_classOf x_numberOf x_sourceMethod x_sourceLine x_callLine x_ruleKind x_ruleClasses x_ruleNames x_newNumber x_familyOf x_sightOf fr fl' fh oi x_traceMethod x_traceLine := by
    intro q
    induction q with
    | zero =>
      intro i a f fl' e hf ha h1 h2
      obtain ⟨f, rfl⟩ : ∃ q, f = q + 1 := ⟨f - 1, by omega⟩
      rw [wX_leaveNextOut_26]
      refine br_t (nI_le (a := 3) (by omega) (by omega)) (K fl' h1 ?_)
      rw [h2, nI_1]
      exact congrArg nI (by omega)
    | succ q ih =>
      intro i a f fl' e hf ha h1 h2
      obtain ⟨f, rfl⟩ : ∃ q, f = q + 1 := ⟨f - 1, by omega⟩
      rw [wX_leaveNextOut_26]
      refine br_f (nI_ge (b := 3) (by omega) (by decide)) ⟨ik, ?_⟩
      rw [nI_c (show k < 10000 by omega), h2, nI_1]
      refine nm_e ⟨ir, ?_⟩
      rw [nI_c (show 30 * w + m < 10000 by omega), plen, nI_a24]
      rcases ha with ha | ha
      · rcases stop a (by omega) with z | ⟨z, zc⟩
        · exact br_t (nI_le z (by omega)) (nm_r (nI_1 i) (ih (i + 1) a f fl' (by omega) (by omega) (Or.inl ha) h1 h2))
        · refine br_f (nI_ge z (by omega)) ⟨vp_in_nI (by omega) (by decide), ?_⟩
          rw [nI_c (by omega)]
          exact br_t zc (nm_r (nI_1 i) (ih (i + 1) a f fl' (by omega) (by omega) (Or.inl ha) h1 h2))
      · obtain ⟨z, zc⟩ := cell a ha.2
        refine br_f (nI_ge z (by omega)) ⟨vp_in_nI (by omega) (by decide), ?_⟩
        rw [nI_c (show 24 * (30 * w + m) + (po_n inl y_length m (x + 1) + a + 1) < 10000 by omega)]
        refine br_f (by rw [zc]; exact oI_n (by omega)) ⟨ik, ik, nm_e (nm_r (nI_1 i) (ih (i + 1) (a + 1) f _ (by omega) (by omega) ?_ (fun j hj => ?_) ?_))⟩
        · rcases Nat.lt_or_ge (a + 1 + 1) (gy_n inl y_length m (x + 1)) with y | y
          · exact Or.inr ⟨by omega, y⟩
          · exact Or.inl (by omega)
        · rw [pk_un hj]; exact h1 j hj
        · rw [pk_us]; exact congrArg nI (by omega)
  unfold wpX_leaveNextOut
  dsimp only
  refine nm_r (nI_pred k) ⟨ik, ?_⟩
  rw [nI_c (show k < 10000 by omega)]
  refine nm_r f1 ⟨ik, ik, nm_e ⟨4, ?_⟩⟩
  refine lo 3 0 0 4 _ (by omega) (by omega) ?_ (fun j hj => pk_un hj) ?_
  · rcases Nat.lt_or_ge 1 (gy_n inl y_length m (x + 1)) with y | y
    · exact Or.inr ⟨rfl, y⟩
    · exact Or.inl (by omega)
  · rw [pk_us, f4, nI_1, e1]
end
end
section
/-! ===== running: one instruction, no frame entered ===== -/
section
variable {x_classCount x_methodCount x_ruleCount x_isBuilt x_faultPlace x_namedClasses x_madeClasses x_namedMethods x_liveMethods x_depth x_stepCount x_outCount x_traceCount : Int32} {x_isInterfaceClass x_chainOf x_interfacesOf x_ancestorsOf x_homeOf x_formOf x_nameOf x_lengthOf x_opOf x_classOf x_numberOf x_sourceMethod x_sourceLine x_callLine x_ruleKind x_ruleClasses x_ruleNames x_newNumber x_familyOf x_sightOf x_frameRow x_frameLine x_frameHeld x_outInts x_traceMethod x_traceLine : Nat → Int32} {y_classes y_methods y_rules y_place y_named y_made y_namedMethods y_live y_built y_depth y_steps y_outs y_ending : Int32} {y_isInterface y_isAbstract y_parent y_ancestors y_own y_many y_home y_name y_length y_op y_first y_second y_ruleKind y_ruleClasses y_ruleNames y_inlined y_number y_newName y_family y_vMethod y_vLine y_vHeld y_put : Nat → Int32} {C M R w s o k : Nat} {inl fr fl fh vm vl vh oi : Nat → Int32} {P : Int32 → SX → Prop} {GB : (Int32 → SY → Prop) → Prop}
theorem xd_0 (T : tp_p C M R x_isInterfaceClass x_ancestorsOf x_interfacesOf x_chainOf y_parent y_many x_homeOf x_ruleKind x_ruleClasses x_ruleNames x_formOf x_nameOf x_lengthOf y_isAbstract y_name y_length x_opOf x_classOf x_numberOf x_sourceMethod x_sourceLine x_callLine y_op y_first y_second) (hw : w < 2) (sm : sm_p C M w inl y_length y_op y_first y_second x_formOf x_lengthOf x_opOf x_classOf x_numberOf x_sourceMethod x_sourceLine x_callLine y_inlined) (HY : (∀ {Q : SY → Prop} {k s o : Nat} {vm vl vh oi : Nat → Int32} {m x h : Nat} {cc : Int32}, m < M → x_formOf (30 * w + m) = 2 → x < hq_t (y_length m) → inl (6 * m + x) < 0 → (y_op (6 * m + x) = 2 ∨ y_op (6 * m + x) = 3) → h < C → (cc = nI h ∨ (cc = -1 ∧ y_first (6 * m + x) = nI h)) → wY_call_87 Q (oI (ft_v M w x_ancestorsOf x_chainOf x_homeOf x_formOf x_nameOf (x_numberOf (24 * (30 * w + m) + po_n inl y_length m x)) h)) (nI C) (nI M) y_rules y_place y_named y_made y_namedMethods y_live y_built (nI (k + 1)) (nI (s + 1)) (nI o) (-1) x_isInterfaceClass y_isAbstract y_parent x_ancestorsOf x_interfacesOf y_many x_homeOf y_name y_length y_op y_first y_second x_ruleKind x_ruleClasses x_ruleNames y_inlined y_number y_newName y_family vm vl vh oi → wpY_call Q (nI C, nI M, y_rules, y_place, y_named, y_made, y_namedMethods, y_live, y_built, nI (k + 1), nI (s + 1), nI o, -1, x_isInterfaceClass, y_isAbstract, y_parent, x_ancestorsOf, x_interfacesOf, y_many, x_homeOf, y_name, y_length, y_op, y_first, y_second, x_ruleKind, x_ruleClasses, x_ruleNames, y_inlined, y_number, y_newName, y_family, vm, vl, vh, oi) (nI w) (nI (6 * m + x)) cc)) (hl6 : ∀ m, m < M → y_length m = nI (hq_t (y_length m)) ∧ hq_t (y_length m) ≤ 6) {m x : Nat} (fq : fo_q C M w inl y_length x_formOf fr fl fh vm vl vh k m x) (xl : x < hq_t (y_length m)) (k8 : k < 8) (lo : lo_q C M w inl y_length x_formOf fr fl fh vm vl vh (k + 1)) (hos : o ≤ s) (s2 : s < 200)
    (g : ∀ ypost : Int32 → SY → Prop, (∃ n, wY_run_162 ypost (nI w) n (nI C) (nI M) y_rules y_place y_named y_made y_namedMethods y_live y_built (nI (k + 1)) (nI s) (nI o) (-1) x_isInterfaceClass y_isAbstract y_parent x_ancestorsOf x_interfacesOf y_many x_homeOf y_name y_length y_op y_first y_second x_ruleKind x_ruleClasses x_ruleNames y_inlined y_number y_newName y_family vm vl vh oi) → GB ypost)
    (KE : ∀ r : Int32, 0 ≤ r → ¬ r = -1 → (∀ ypost : Int32 → SY → Prop, ypost r (nI C, nI M, y_rules, y_place, y_named, y_made, y_namedMethods, y_live, y_built, nI (k + 1), nI (s + 1), nI o, r, x_isInterfaceClass, y_isAbstract, y_parent, x_ancestorsOf, x_interfacesOf, y_many, x_homeOf, y_name, y_length, y_op, y_first, y_second, x_ruleKind, x_ruleClasses, x_ruleNames, y_inlined, y_number, y_newName, y_family, vm, vl, vh, oi) → GB ypost) → P r (nI C, nI M, x_ruleCount, x_isBuilt, x_faultPlace, x_namedClasses, x_madeClasses, x_namedMethods, x_liveMethods, nI (k + 1), nI (s + 1), nI o, x_traceCount, x_isInterfaceClass, x_chainOf, x_interfacesOf, x_ancestorsOf, x_homeOf, x_formOf, x_nameOf, x_lengthOf, x_opOf, x_classOf, x_numberOf, x_sourceMethod, x_sourceLine, x_callLine, x_ruleKind, x_ruleClasses, x_ruleNames, x_newNumber, x_familyOf, x_sightOf, fr, fl, fh, oi, x_traceMethod, x_traceLine)) (KG0 : ∀ (d o' : Nat) (fr fl fh vm vl vh oi : Nat → Int32), s0_p C M w inl y_length x_formOf fr fl fh vm vl vh d → o' ≤ s + 1 → (∀ ypost : Int32 → SY → Prop, (∃ n, wY_run_162 ypost (nI w) n (nI C) (nI M) y_rules y_place y_named y_made y_namedMethods y_live y_built (nI d) (nI (s + 1)) (nI o') (-1) x_isInterfaceClass y_isAbstract y_parent x_ancestorsOf x_interfacesOf y_many x_homeOf y_name y_length y_op y_first y_second x_ruleKind x_ruleClasses x_ruleNames y_inlined y_number y_newName y_family vm vl vh oi) → GB ypost) → P (-1) (nI C, nI M, x_ruleCount, x_isBuilt, x_faultPlace, x_namedClasses, x_madeClasses, x_namedMethods, x_liveMethods, nI d, nI (s + 1), nI o', x_traceCount, x_isInterfaceClass, x_chainOf, x_interfacesOf, x_ancestorsOf, x_homeOf, x_formOf, x_nameOf, x_lengthOf, x_opOf, x_classOf, x_numberOf, x_sourceMethod, x_sourceLine, x_callLine, x_ruleKind, x_ruleClasses, x_ruleNames, x_newNumber, x_familyOf, x_sightOf, fr, fl, fh, oi, x_traceMethod, x_traceLine)) (KG1 : ∀ (d k m x t j o' : Nat) (fr fl fh vm vl vh oi : Nat → Int32), d = k + 1 → s1_p C M w inl y_length x_formOf fr fl fh vm vl vh k m x t j → o' ≤ s + 1 → (∀ ypost : Int32 → SY → Prop, (∃ n, wY_run_162 ypost (nI w) n (nI C) (nI M) y_rules y_place y_named y_made y_namedMethods y_live y_built (nI (k + 2)) (nI (s + 1)) (nI o') (-1) x_isInterfaceClass y_isAbstract y_parent x_ancestorsOf x_interfacesOf y_many x_homeOf y_name y_length y_op y_first y_second x_ruleKind x_ruleClasses x_ruleNames y_inlined y_number y_newName y_family vm vl vh oi) → GB ypost) → P (-1) (nI C, nI M, x_ruleCount, x_isBuilt, x_faultPlace, x_namedClasses, x_madeClasses, x_namedMethods, x_liveMethods, nI d, nI (s + 1), nI o', x_traceCount, x_isInterfaceClass, x_chainOf, x_interfacesOf, x_ancestorsOf, x_homeOf, x_formOf, x_nameOf, x_lengthOf, x_opOf, x_classOf, x_numberOf, x_sourceMethod, x_sourceLine, x_callLine, x_ruleKind, x_ruleClasses, x_ruleNames, x_newNumber, x_familyOf, x_sightOf, fr, fl, fh, oi, x_traceMethod, x_traceLine)) : wpX_doInstruction P (nI C, nI M, x_ruleCount, x_isBuilt, x_faultPlace, x_namedClasses, x_madeClasses, x_namedMethods, x_liveMethods, nI (k + 1), nI (s + 1), nI o, x_traceCount, x_isInterfaceClass, x_chainOf, x_interfacesOf, x_ancestorsOf, x_homeOf, x_formOf, x_nameOf, x_lengthOf, x_opOf, x_classOf, x_numberOf, x_sourceMethod, x_sourceLine, x_callLine, x_ruleKind, x_ruleClasses, x_ruleNames, x_newNumber, x_familyOf, x_sightOf, fr, fl, fh, oi, x_traceMethod, x_traceLine) (nI w) := by
  have h30 := T.2.2.1.1
  have h10 := T.1.1
  obtain ⟨mM, mF, f1, f2, f3, f4, f5, f6⟩ := fq
  have l6 := hl6 m mM
  have p24 := po_24 sm.1 h30 mM l6.2
  have plt := po_lt (inl := inl) (ylen := y_length) (m := m) xl
  obtain ⟨q, q6, ey, hc, cS, cU, cA, cn, ci⟩ := sm.2.2 m x mM mF xl
  have ik : vp_in (nI k) 8 := vp_in_nI (by omega) (by decide)
  have ij : vp_in (nI (6 * m + x)) 180 := vp_in_nI (by omega) (by decide)
  have ip : vp_in (nI (24 * (30 * w + m) + po_n inl y_length m x)) 1440 := vp_in_nI (by omega) (by decide)
  have io : vp_in (nI o) 200 := vp_in_nI (by omega) (by decide)
  have f6x : fh k = -1 ∨ ∃ h, h < C ∧ fh k = nI h := by rw [f5]; exact f6
  have yst : ∀ (ypost : Int32 → SY → Prop) (n : Nat), (∀ Q : SY → Prop, (∀ {y_classes y_methods y_rules y_place y_named y_made y_namedMethods y_live y_built y_depth y_steps y_outs y_ending : Int32} {y_isInterface y_isAbstract y_parent y_ancestors y_own y_many y_home y_name y_length y_op y_first y_second y_ruleKind y_ruleClasses y_ruleNames y_inlined y_number y_newName y_family y_vMethod y_vLine y_vHeld y_put : Nat → Int32}, wY_run_162 ypost (nI w) n y_classes y_methods y_rules y_place y_named y_made y_namedMethods y_live y_built y_depth y_steps y_outs y_ending y_isInterface y_isAbstract y_parent y_ancestors y_own y_many y_home y_name y_length y_op y_first y_second y_ruleKind y_ruleClasses y_ruleNames y_inlined y_number y_newName y_family y_vMethod y_vLine y_vHeld y_put → Q (y_classes, y_methods, y_rules, y_place, y_named, y_made, y_namedMethods, y_live, y_built, y_depth, y_steps, y_outs, y_ending, y_isInterface, y_isAbstract, y_parent, y_ancestors, y_own, y_many, y_home, y_name, y_length, y_op, y_first, y_second, y_ruleKind, y_ruleClasses, y_ruleNames, y_inlined, y_number, y_newName, y_family, y_vMethod, y_vLine, y_vHeld, y_put)) → wpY_step Q (nI C, nI M, y_rules, y_place, y_named, y_made, y_namedMethods, y_live, y_built, nI (k + 1), nI (s + 1), nI o, -1, x_isInterfaceClass, y_isAbstract, y_parent, x_ancestorsOf, x_interfacesOf, y_many, x_homeOf, y_name, y_length, y_op, y_first, y_second, x_ruleKind, x_ruleClasses, x_ruleNames, y_inlined, y_number, y_newName, y_family, vm, vl, vh, oi) (nI w) (nI k) (nI (6 * m + x))) → GB ypost := fun yp n h =>
    g yp (y_step hw k8 f2 (by omega) f3 (by omega) (by rw [l6.1]; exact nI_lt xl (by omega)) s2 h)
  have yend : ∀ r : Int32, 0 ≤ r → (∀ (ypost : Int32 → SY → Prop) (n : Nat), wY_run_162 ypost (nI w) n (nI C) (nI M) y_rules y_place y_named y_made y_namedMethods y_live y_built (nI (k + 1)) (nI (s + 1)) (nI o) r x_isInterfaceClass y_isAbstract y_parent x_ancestorsOf x_interfacesOf y_many x_homeOf y_name y_length y_op y_first y_second x_ruleKind x_ruleClasses x_ruleNames y_inlined y_number y_newName y_family vm vl vh oi → GB ypost) → ∀ ypost : Int32 → SY → Prop, ypost r (nI C, nI M, y_rules, y_place, y_named, y_made, y_namedMethods, y_live, y_built, nI (k + 1), nI (s + 1), nI o, r, x_isInterfaceClass, y_isAbstract, y_parent, x_ancestorsOf, x_interfacesOf, y_many, x_homeOf, y_name, y_length, y_op, y_first, y_second, x_ruleKind, x_ruleClasses, x_ruleNames, y_inlined, y_number, y_newName, y_family, vm, vl, vh, oi) → GB ypost := fun r hr h yp hp => by
    obtain ⟨n, hn⟩ := y_end (w := w) hr hp
    exact h yp n hn
  have adv : ∀ fl' fh' vm' vl' vh' x', (∀ j, j ≠ k → fl' j = fl j) → (∀ j, j ≠ k → fh' j = fh j) → (∀ j, j ≤ k → vm' j = vm j) → (∀ j, j < k → vl' j = vl j) → (∀ j, j < k → vh' j = vh j) → fl' k = nI (po_n inl y_length m x') → vl' k = nI x' → x' ≤ hq_t (y_length m) + 1 → fh' k = vh' k → (vh' k = -1 ∨ ∃ h, h < C ∧ vh' k = nI h) → s0_p C M w inl y_length x_formOf fr fl' fh' vm' vl' vh' (k + 1) := fun fl' fh' vm' vl' vh' x' a1 a2 a3 a4 a5 a6 a7 a8 a9 a10 =>
    ⟨by omega, lo_cg lo (Nat.le_refl _) (fun _ _ => rfl) (fun j hj => a1 j (by omega)) (fun j hj => a2 j (by omega)) (fun j hj => a3 j (by omega)) (fun j hj => a4 j (by omega)) (fun j hj => a5 j (by omega)), fun k' hk' => by
      have : k' = k := by omega
      subst this
      exact ⟨m, x', ⟨mM, mF, f1, by rw [a3 k' (Nat.le_refl _)]; exact f2, a7, a6, a9, a10⟩, a8⟩⟩
  unfold wpX_doInstruction
  dsimp only
  refine nm_r (nI_pred k) ⟨ik, ik, ?_⟩
  rw [nI_c (show k < 10000 by omega), f1, f4, nI_a24]
  refine nm_e ⟨ip, ?_⟩
  rw [nI_c (show 24 * (30 * w + m) + po_n inl y_length m x < 10000 by omega)]
  by_cases n : inl (6 * m + x) < 0
  · obtain ⟨c1, c2, c3⟩ := cn n
    have px1 : po_n inl y_length m (x + 1) = po_n inl y_length m x + 1 := by rw [po_s, gy_1 n]
    have go : ∀ {o' : Nat} {fh' vh' oi' : Nat → Int32}, o' ≤ s + 1 → (∀ j, j ≠ k → fh' j = fh j) → (∀ j, j < k → vh' j = vh j) → fh' k = vh' k → (vh' k = -1 ∨ ∃ h, h < C ∧ vh' k = nI h) →
        (∀ ypost : Int32 → SY → Prop, (∃ n, wY_run_162 ypost (nI w) n (nI C) (nI M) y_rules y_place y_named y_made y_namedMethods y_live y_built (nI (k + 1)) (nI (s + 1)) (nI o') (-1) x_isInterfaceClass y_isAbstract y_parent x_ancestorsOf x_interfacesOf y_many x_homeOf y_name y_length y_op y_first y_second x_ruleKind x_ruleClasses x_ruleNames y_inlined y_number y_newName y_family vm (upd vl k (vl k + 1)) vh' oi') → GB ypost) →
        wX_doInstruction_218 P (nI k) (nI C) (nI M) x_ruleCount x_isBuilt x_faultPlace x_namedClasses x_madeClasses x_namedMethods x_liveMethods (nI (k + 1)) (nI (s + 1)) (nI o') x_traceCount x_isInterfaceClass x_chainOf x_interfacesOf x_ancestorsOf x_homeOf x_formOf x_nameOf x_lengthOf x_opOf x_classOf x_numberOf x_sourceMethod x_sourceLine x_callLine x_ruleKind x_ruleClasses x_ruleNames x_newNumber x_familyOf x_sightOf fr fl fh' oi' x_traceMethod x_traceLine := fun b1 b2 b3 b4 b5 b6 => by
      unfold wX_doInstruction_218
      rw [nI_c (show k < 10000 by omega)]
      refine ⟨ik, ik, nm_e (KG0 (k + 1) _ fr _ _ vm _ _ _ (adv _ _ vm _ _ (x + 1) (fun j hj => pk_un hj) b2 (fun _ _ => rfl) (fun j hj => pk_un (by omega)) b3 ?_ ?_ (by omega) b4 b5) b1 b6)⟩
      · rw [pk_us, f4, nI_1, px1]
      · rw [pk_us, f3, nI_1]
    rcases (by omega : q = 0 ∨ q = 1 ∨ q = 2 ∨ q = 3 ∨ q = 4 ∨ q = 5) with z | z | z | z | z | z
    · subst z
      refine nm_r c1 (br_f (by decide) (br_f (by decide) (br_t rfl ⟨ip, io, nm_e (nm_r (nI_1 o) ?_)⟩)))
      rw [nI_c (show o < 10000 by omega), c3 rfl]
      refine go (by omega) (fun _ _ => rfl) (fun _ _ => rfl) f5 f6 (fun yp ⟨n', hn⟩ => yst yp n' (fun Q hQ => ys_b h10 k8 (by omega) ey q6 hc f6 (fun _ _ _ a _ _ => by omega) (fun _ => ?_)))
      unfold wY_step_60
      rw [nI_c (show 6 * m + x < 10000 by omega), nI_c (show k < 10000 by omega), nI_c (show o < 10000 by omega)]
      exact ⟨ij, nm_r ey (br_f (by decide) (br_f (by decide) (br_t rfl (nm_r (nI_1 o) ⟨ij, io, nm_e ⟨ik, ik, nm_e (hQ hn)⟩⟩))))⟩
    · subst z
      obtain ⟨c, cC, ec⟩ := hc (by omega) (by omega)
      refine nm_r c1 (br_f (by decide) (br_f (by decide) (br_f (by decide) (br_t rfl ⟨ip, ik, nm_e ?_⟩))))
      rw [c2 (by omega) (by omega)]
      have fin : ∀ {ypost : Int32 → SY → Prop} {n' : Nat} {Q : SY → Prop} {x5 z0 : Int32}, (∀ {y_classes y_methods y_rules y_place y_named y_made y_namedMethods y_live y_built y_depth y_steps y_outs y_ending : Int32} {y_isInterface y_isAbstract y_parent y_ancestors y_own y_many y_home y_name y_length y_op y_first y_second y_ruleKind y_ruleClasses y_ruleNames y_inlined y_number y_newName y_family y_vMethod y_vLine y_vHeld y_put : Nat → Int32}, wY_run_162 ypost (nI w) n' y_classes y_methods y_rules y_place y_named y_made y_namedMethods y_live y_built y_depth y_steps y_outs y_ending y_isInterface y_isAbstract y_parent y_ancestors y_own y_many y_home y_name y_length y_op y_first y_second y_ruleKind y_ruleClasses y_ruleNames y_inlined y_number y_newName y_family y_vMethod y_vLine y_vHeld y_put → Q (y_classes, y_methods, y_rules, y_place, y_named, y_made, y_namedMethods, y_live, y_built, y_depth, y_steps, y_outs, y_ending, y_isInterface, y_isAbstract, y_parent, y_ancestors, y_own, y_many, y_home, y_name, y_length, y_op, y_first, y_second, y_ruleKind, y_ruleClasses, y_ruleNames, y_inlined, y_number, y_newName, y_family, y_vMethod, y_vLine, y_vHeld, y_put)) → wY_run_162 ypost (nI w) n' (nI C) (nI M) y_rules y_place y_named y_made y_namedMethods y_live y_built (nI (k + 1)) (nI (s + 1)) (nI o) (-1) x_isInterfaceClass y_isAbstract y_parent x_ancestorsOf x_interfacesOf y_many x_homeOf y_name y_length y_op y_first y_second x_ruleKind x_ruleClasses x_ruleNames y_inlined y_number y_newName y_family vm (upd vl k (vl k + 1)) (upd vh k (y_first (6 * m + x))) oi →
          wY_step_60 Q (nI w) (nI k) (nI (6 * m + x)) (y_first (6 * m + x)) x5 z0 (nI C) (nI M) y_rules y_place y_named y_made y_namedMethods y_live y_built (nI (k + 1)) (nI (s + 1)) (nI o) (-1) x_isInterfaceClass y_isAbstract y_parent x_ancestorsOf x_interfacesOf y_many x_homeOf y_name y_length y_op y_first y_second x_ruleKind x_ruleClasses x_ruleNames y_inlined y_number y_newName y_family vm vl vh oi := fun hQ hn => by
        unfold wY_step_60
        rw [nI_c (show 6 * m + x < 10000 by omega), nI_c (show k < 10000 by omega)]
        exact ⟨ij, nm_r ey (br_f (by decide) (br_f (by decide) (br_f (by decide) (br_t rfl ⟨ik, nm_e ⟨ik, ik, nm_e (hQ hn)⟩⟩))))⟩
      refine go (by omega) (fun j hj => pk_un hj) (fun j hj => pk_un (by omega)) ?_ ?_ (fun yp ⟨n', hn⟩ => yst yp n' (fun Q hQ => ys_b h10 k8 (by omega) ey q6 hc f6 (fun _ _ _ _ _ _ => fin hQ hn) (fun _ => fin hQ hn)))
      · rw [pk_us, pk_us]
      · rw [pk_us]; exact Or.inr ⟨c, cC, ec⟩
    · subst z
      obtain ⟨c, cC, ec⟩ := hc (by omega) (by omega)
      have hce : hq_t (y_first (6 * m + x)) = c := by rw [ec]; exact hq_e (by omega)
      refine nm_r c1 (br_f (by decide) (br_f (by decide) (br_f (by decide) (br_f (by decide) (br_t rfl ⟨ip, ip, ?_⟩)))))
      rw [c2 (by omega) (by omega), ec]
      unfold wpX_doCall
      dsimp only
      refine xi_b h10 k8 cC f6x (fun h hC eh b => ?_) (fun nf => ?_)
      · rw [nI_pred, nI_c (show k < 10000 by omega), eh]
        have ehy : vh k = nI h := by rw [← f5]; exact eh
        have yc : ∀ (ypost : Int32 → SY → Prop) (n' : Nat), (∀ Q : SY → Prop, (∀ {y_classes y_methods y_rules y_place y_named y_made y_namedMethods y_live y_built y_depth y_steps y_outs y_ending : Int32} {y_isInterface y_isAbstract y_parent y_ancestors y_own y_many y_home y_name y_length y_op y_first y_second y_ruleKind y_ruleClasses y_ruleNames y_inlined y_number y_newName y_family y_vMethod y_vLine y_vHeld y_put : Nat → Int32}, wY_run_162 ypost (nI w) n' y_classes y_methods y_rules y_place y_named y_made y_namedMethods y_live y_built y_depth y_steps y_outs y_ending y_isInterface y_isAbstract y_parent y_ancestors y_own y_many y_home y_name y_length y_op y_first y_second y_ruleKind y_ruleClasses y_ruleNames y_inlined y_number y_newName y_family y_vMethod y_vLine y_vHeld y_put → Q (y_classes, y_methods, y_rules, y_place, y_named, y_made, y_namedMethods, y_live, y_built, y_depth, y_steps, y_outs, y_ending, y_isInterface, y_isAbstract, y_parent, y_ancestors, y_own, y_many, y_home, y_name, y_length, y_op, y_first, y_second, y_ruleKind, y_ruleClasses, y_ruleNames, y_inlined, y_number, y_newName, y_family, y_vMethod, y_vLine, y_vHeld, y_put)) → wY_call_87 Q (oI (ft_v M w x_ancestorsOf x_chainOf x_homeOf x_formOf x_nameOf (x_numberOf (24 * (30 * w + m) + po_n inl y_length m x)) h)) (nI C) (nI M) y_rules y_place y_named y_made y_namedMethods y_live y_built (nI (k + 1)) (nI (s + 1)) (nI o) (-1) x_isInterfaceClass y_isAbstract y_parent x_ancestorsOf x_interfacesOf y_many x_homeOf y_name y_length y_op y_first y_second x_ruleKind x_ruleClasses x_ruleNames y_inlined y_number y_newName y_family vm vl vh oi) → GB ypost := fun yp n' hh => yst yp n' (fun Q hQ => ys_b h10 k8 (by omega) ey q6 hc f6 (fun h' hC' eh' _ _ b' => by
            have : h' = h := by
              rw [ehy] at eh'
              exact ((nI_eq (by omega) (by omega)).mp eh').symm
            subst this
            unfold wY_step_60
            rw [nI_c (show 6 * m + x < 10000 by omega)]
            refine ⟨ij, nm_r ey (br_f (by decide) (br_f (by decide) (br_f (by decide) (br_f (by decide) (br_t rfl (br_1 ?_))))))⟩
            exact HY mM mF xl n (by rw [ey]; exact Or.inl rfl) hC (Or.inl rfl) (hh _ (fun q => hQ q))) (fun nf => absurd ⟨h, hC, ehy, by omega, by omega, by rw [hce]; exact b⟩ nf))
        refine ⟨ik, ca_x T hw k8 hC (fun fn => ?_) (fun g' gM gF ft => ⟨fun z8 => ?_, fun z8 => ?_⟩)⟩
        · refine KE 3 (by decide) (by decide) (yend 3 (by decide) (fun yp n' hn => yc yp n' (fun Q hQ => ca_y k8 (ft_M T hC) (fun _ => hQ hn) (fun g e _ => ?_) (fun g e _ => ?_))))
          · rw [fn] at e; exact absurd e (by simp)
          · rw [fn] at e; exact absurd e (by simp)
        · refine KE 4 (by decide) (by decide) (yend 4 (by decide) (fun yp n' hn => yc yp n' (fun Q hQ => ca_y k8 (ft_M T hC) (fun e => ?_) (fun _ _ _ => hQ hn) (fun _ _ z => by omega))))
          rw [ft] at e; exact absurd e (by simp)
        · refine KG0 (k + 2) o (upd fr (k + 1) (nI (30 * w + g'))) (upd fl (k + 1) 0) (upd fh (k + 1) (fh k)) (upd vm (k + 1) (nI g')) (upd vl (k + 1) 0) (upd vh (k + 1) (vh k)) oi ⟨by omega, ?_, fun k' hk' => ?_⟩ (by omega) (fun yp ⟨n', hn⟩ => yc yp n' (fun Q hQ => ca_y k8 (ft_M T hC) (fun e => ?_) (fun _ _ z => by omega) (fun g'' e _ => ?_)))
          · intro k' hk'
            rcases Nat.lt_or_ge k' k with y | y
            · obtain ⟨m2, x2, fq2, r2⟩ := lo k' (by omega)
              exact ⟨m2, x2, fo_cg fq2 (pk_un (by omega)) (pk_un (by omega)) (pk_un (by omega)) (pk_un (by omega)) (pk_un (by omega)) (pk_un (by omega)), r2⟩
            · have : k' = k := by omega
              subst this
              exact ⟨m, x, fo_cg ⟨mM, mF, f1, f2, f3, f4, f5, f6⟩ (pk_un (by omega)) (pk_un (by omega)) (pk_un (by omega)) (pk_un (by omega)) (pk_un (by omega)) (pk_un (by omega)), xl, n⟩
          · have : k' = k + 1 := by omega
            subst this
            refine ⟨g', 0, ⟨gM, gF, pk_us, pk_us, pk_us, pk_us, ?_, ?_⟩, by omega⟩
            · rw [pk_us, pk_us]; exact f5
            · rw [pk_us]; exact f6
          · rw [ft] at e; exact absurd e (by simp)
          · rw [ft] at e
            have : g' = g'' := by simpa using e
            subst this; exact hQ hn
      · refine KE 2 (by decide) (by decide) (yend 2 (by decide) (fun yp n' hn => yst yp n' (fun Q hQ => ys_b h10 k8 (by omega) ey q6 hc f6 (fun h hC eh _ _ b => absurd ⟨h, hC, by rw [f5]; exact eh, by rw [← hce]; exact b⟩ nf) (fun _ => ?_))))
        unfold wY_step_60
        rw [nI_c (show 6 * m + x < 10000 by omega)]
        exact ⟨ij, nm_r ey (br_f (by decide) (br_f (by decide) (br_f (by decide) (br_f (by decide) (br_t rfl (br_0 (hQ hn)))))))⟩
    · subst z
      obtain ⟨c, cC, ec⟩ := hc (by omega) (by omega)
      refine nm_r c1 (br_f (by decide) (br_f (by decide) (br_f (by decide) (br_f (by decide) (br_f (by decide) (br_t rfl ⟨ip, ip, ?_⟩))))))
      rw [c2 (by omega) (by omega), ec]
      have yc : ∀ (ypost : Int32 → SY → Prop) (n' : Nat), (∀ Q : SY → Prop, (∀ {y_classes y_methods y_rules y_place y_named y_made y_namedMethods y_live y_built y_depth y_steps y_outs y_ending : Int32} {y_isInterface y_isAbstract y_parent y_ancestors y_own y_many y_home y_name y_length y_op y_first y_second y_ruleKind y_ruleClasses y_ruleNames y_inlined y_number y_newName y_family y_vMethod y_vLine y_vHeld y_put : Nat → Int32}, wY_run_162 ypost (nI w) n' y_classes y_methods y_rules y_place y_named y_made y_namedMethods y_live y_built y_depth y_steps y_outs y_ending y_isInterface y_isAbstract y_parent y_ancestors y_own y_many y_home y_name y_length y_op y_first y_second y_ruleKind y_ruleClasses y_ruleNames y_inlined y_number y_newName y_family y_vMethod y_vLine y_vHeld y_put → Q (y_classes, y_methods, y_rules, y_place, y_named, y_made, y_namedMethods, y_live, y_built, y_depth, y_steps, y_outs, y_ending, y_isInterface, y_isAbstract, y_parent, y_ancestors, y_own, y_many, y_home, y_name, y_length, y_op, y_first, y_second, y_ruleKind, y_ruleClasses, y_ruleNames, y_inlined, y_number, y_newName, y_family, y_vMethod, y_vLine, y_vHeld, y_put)) → wY_call_87 Q (oI (ft_v M w x_ancestorsOf x_chainOf x_homeOf x_formOf x_nameOf (x_numberOf (24 * (30 * w + m) + po_n inl y_length m x)) c)) (nI C) (nI M) y_rules y_place y_named y_made y_namedMethods y_live y_built (nI (k + 1)) (nI (s + 1)) (nI o) (-1) x_isInterfaceClass y_isAbstract y_parent x_ancestorsOf x_interfacesOf y_many x_homeOf y_name y_length y_op y_first y_second x_ruleKind x_ruleClasses x_ruleNames y_inlined y_number y_newName y_family vm vl vh oi) → GB ypost := fun yp n' hh => yst yp n' (fun Q hQ => by
        have st : ∀ x5 z0, wY_step_60 Q (nI w) (nI k) (nI (6 * m + x)) (y_first (6 * m + x)) x5 z0 (nI C) (nI M) y_rules y_place y_named y_made y_namedMethods y_live y_built (nI (k + 1)) (nI (s + 1)) (nI o) (-1) x_isInterfaceClass y_isAbstract y_parent x_ancestorsOf x_interfacesOf y_many x_homeOf y_name y_length y_op y_first y_second x_ruleKind x_ruleClasses x_ruleNames y_inlined y_number y_newName y_family vm vl vh oi := fun x5 z0 => by
          unfold wY_step_60
          rw [nI_c (show 6 * m + x < 10000 by omega)]
          refine ⟨ij, nm_r ey (br_f (by decide) (br_f (by decide) (br_f (by decide) (br_f (by decide) (br_f (by decide) (br_t rfl ?_))))))⟩
          exact HY mM mF xl n (by rw [ey]; exact Or.inr rfl) cC (Or.inr ⟨rfl, ec⟩) (hh _ (fun q => hQ q))
        exact ys_b h10 k8 (by omega) ey q6 hc f6 (fun _ _ _ _ _ _ => st _ _) (fun _ => st _ _))
      refine ca_x T hw k8 cC (fun fn => ?_) (fun g' gM gF ft => ⟨fun z8 => ?_, fun z8 => ?_⟩)
      · refine KE 3 (by decide) (by decide) (yend 3 (by decide) (fun yp n' hn => yc yp n' (fun Q hQ => ca_y k8 (ft_M T cC) (fun _ => hQ hn) (fun g e _ => ?_) (fun g e _ => ?_))))
        · rw [fn] at e; exact absurd e (by simp)
        · rw [fn] at e; exact absurd e (by simp)
      · refine KE 4 (by decide) (by decide) (yend 4 (by decide) (fun yp n' hn => yc yp n' (fun Q hQ => ca_y k8 (ft_M T cC) (fun e => ?_) (fun _ _ _ => hQ hn) (fun _ _ z => by omega))))
        rw [ft] at e; exact absurd e (by simp)
      · refine KG0 (k + 2) o (upd fr (k + 1) (nI (30 * w + g'))) (upd fl (k + 1) 0) (upd fh (k + 1) (fh k)) (upd vm (k + 1) (nI g')) (upd vl (k + 1) 0) (upd vh (k + 1) (vh k)) oi ⟨by omega, ?_, fun k' hk' => ?_⟩ (by omega) (fun yp ⟨n', hn⟩ => yc yp n' (fun Q hQ => ca_y k8 (ft_M T cC) (fun e => ?_) (fun _ _ z => by omega) (fun g'' e _ => ?_)))
        · intro k' hk'
          rcases Nat.lt_or_ge k' k with y | y
          · obtain ⟨m2, x2, fq2, r2⟩ := lo k' (by omega)
            exact ⟨m2, x2, fo_cg fq2 (pk_un (by omega)) (pk_un (by omega)) (pk_un (by omega)) (pk_un (by omega)) (pk_un (by omega)) (pk_un (by omega)), r2⟩
          · have : k' = k := by omega
            subst this
            exact ⟨m, x, fo_cg ⟨mM, mF, f1, f2, f3, f4, f5, f6⟩ (pk_un (by omega)) (pk_un (by omega)) (pk_un (by omega)) (pk_un (by omega)) (pk_un (by omega)) (pk_un (by omega)), xl, n⟩
        · have : k' = k + 1 := by omega
          subst this
          refine ⟨g', 0, ⟨gM, gF, pk_us, pk_us, pk_us, pk_us, ?_, ?_⟩, by omega⟩
          · rw [pk_us, pk_us]; exact f5
          · rw [pk_us]; exact f6
        · rw [ft] at e; exact absurd e (by simp)
        · rw [ft] at e
          have : g' = g'' := by simpa using e
          subst this; exact hQ hn
    · subst z
      obtain ⟨c, cC, ec⟩ := hc (by omega) (by omega)
      have hce : hq_t (y_first (6 * m + x)) = c := by rw [ec]; exact hq_e (by omega)
      refine nm_r c1 (br_f (by decide) (br_f (by decide) (br_f (by decide) (br_f (by decide) (br_f (by decide) (br_f (by decide) (br_t rfl ⟨ip, ?_⟩)))))))
      rw [c2 (by omega) (by omega), ec]
      refine xi_b h10 k8 cC f6x (fun h hC eh b => ?_) (fun nf => ?_)
      · have ehy : vh k = nI h := by rw [← f5]; exact eh
        refine go (by omega) (fun _ _ => rfl) (fun _ _ => rfl) f5 f6 (fun yp ⟨n', hn⟩ => yst yp n' (fun Q hQ => ys_b h10 k8 (by omega) ey q6 hc f6 (fun h' hC' eh' _ _ b' => ?_) (fun nf => absurd ⟨h, hC, ehy, by omega, by omega, by rw [hce]; exact b⟩ nf)))
        unfold wY_step_60
        rw [nI_c (show 6 * m + x < 10000 by omega), nI_c (show k < 10000 by omega)]
        exact ⟨ij, nm_r ey (br_f (by decide) (br_f (by decide) (br_f (by decide) (br_f (by decide) (br_f (by decide) (br_f (by decide) (br_t rfl ⟨ik, br_1 ⟨ik, nm_e (hQ hn)⟩⟩)))))))⟩
      · refine xn_v sm h30 hl6 hw k8 mM mF f1 f4 xl n (fun fl' a1 a2 => ?_)
        dsimp only
        unfold wX_doInstruction_218
        rw [nI_c (show k < 10000 by omega)]
        refine ⟨ik, ik, nm_e (KG0 (k + 1) o fr _ fh vm (upd vl k (vl k + 2)) vh oi (adv _ fh vm _ vh (x + 2) (fun j hj => by rw [pk_un hj]; exact a1 j hj) (fun _ _ => rfl) (fun _ _ => rfl) (fun j hj => pk_un (by omega)) (fun _ _ => rfl) ?_ ?_ (by omega) f5 f6) (by omega) (fun yp ⟨n', hn⟩ => yst yp n' (fun Q hQ => ys_b h10 k8 (by omega) ey q6 hc f6 (fun h hC eh _ _ b => absurd ⟨h, hC, by rw [f5]; exact eh, by rw [← hce]; exact b⟩ nf) (fun _ => ?_))))⟩
        · rw [pk_us]; exact a2
        · rw [pk_us, f3]; exact nI_add x 2
        · unfold wY_step_60
          rw [nI_c (show 6 * m + x < 10000 by omega), nI_c (show k < 10000 by omega)]
          exact ⟨ij, nm_r ey (br_f (by decide) (br_f (by decide) (br_f (by decide) (br_f (by decide) (br_f (by decide) (br_f (by decide) (br_t rfl ⟨ik, br_0 ⟨ik, nm_e (hQ hn)⟩⟩)))))))⟩
    · subst z
      refine nm_r c1 (br_f (by decide) (br_f (by decide) (br_f (by decide) (br_f (by decide) (br_f (by decide) (br_f (by decide) (br_f (by decide) (br_t rfl ?_))))))))
      refine KE 1 (by decide) (by decide) (yend 1 (by decide) (fun yp n' hn => yst yp n' (fun Q hQ => ys_b h10 k8 (by omega) ey q6 hc f6 (fun _ _ _ _ a _ => by omega) (fun _ => ?_))))
      unfold wY_step_60
      rw [nI_c (show 6 * m + x < 10000 by omega)]
      exact ⟨ij, nm_r ey (br_f (by decide) (br_t (by decide) (hQ hn)))⟩
  · obtain ⟨w1, yin, cO, cP, t, tM, et, l3, lines⟩ := ci n
    have ht : hq_t (inl (6 * m + x)) = t := by rw [et]; exact hq_e (by omega)
    have gr := gy_t xl n
    rw [ht] at gr
    have px1 := po_s inl y_length m x
    rw [gr] at px1
    have lt1 := (hl6 t tM).1
    have enter : ∀ {Q : SY → Prop} {cc : Int32}, wY_call_87 Q (oI (some t)) (nI C) (nI M) y_rules y_place y_named y_made y_namedMethods y_live y_built (nI (k + 1)) (nI (s + 1)) (nI o) (-1) x_isInterfaceClass y_isAbstract y_parent x_ancestorsOf x_interfacesOf y_many x_homeOf y_name y_length y_op y_first y_second x_ruleKind x_ruleClasses x_ruleNames y_inlined y_number y_newName y_family vm vl vh oi → wpY_call Q (nI C, nI M, y_rules, y_place, y_named, y_made, y_namedMethods, y_live, y_built, nI (k + 1), nI (s + 1), nI o, -1, x_isInterfaceClass, y_isAbstract, y_parent, x_ancestorsOf, x_interfacesOf, y_many, x_homeOf, y_name, y_length, y_op, y_first, y_second, x_ruleKind, x_ruleClasses, x_ruleNames, y_inlined, y_number, y_newName, y_family, vm, vl, vh, oi) (nI w) (nI (6 * m + x)) cc := fun {Q} {cc} h => by
      have w0 : ¬ nI w = 0 := by rw [w1]; decide
      have c14 : ∀ v, wY_call_14 Q (nI w) (nI (6 * m + x)) v (nI C) (nI M) y_rules y_place y_named y_made y_namedMethods y_live y_built (nI (k + 1)) (nI (s + 1)) (nI o) (-1) x_isInterfaceClass y_isAbstract y_parent x_ancestorsOf x_interfacesOf y_many x_homeOf y_name y_length y_op y_first y_second x_ruleKind x_ruleClasses x_ruleNames y_inlined y_number y_newName y_family vm vl vh oi := fun v => by
        unfold wY_call_14
        refine br_f w0 ⟨ij, ?_⟩
        rw [nI_c (show 6 * m + x < 10000 by omega), yin, et]
        unfold wY_call_30
        refine ⟨ij, nm_e (br_f w0 (br_t (nI_pos' (by omega)) ?_))⟩
        unfold wY_call_71
        exact br_t (nI_pos' (by omega)) h
      unfold wpY_call
      dsimp only
      exact br_c (fun _ => c14 _) (fun _ => ⟨ij, c14 _⟩)
    have e205 : (∀ (ypost : Int32 → SY → Prop) (n' : Nat), (∀ Q : SY → Prop, (∀ {y_classes y_methods y_rules y_place y_named y_made y_namedMethods y_live y_built y_depth y_steps y_outs y_ending : Int32} {y_isInterface y_isAbstract y_parent y_ancestors y_own y_many y_home y_name y_length y_op y_first y_second y_ruleKind y_ruleClasses y_ruleNames y_inlined y_number y_newName y_family y_vMethod y_vLine y_vHeld y_put : Nat → Int32}, wY_run_162 ypost (nI w) n' y_classes y_methods y_rules y_place y_named y_made y_namedMethods y_live y_built y_depth y_steps y_outs y_ending y_isInterface y_isAbstract y_parent y_ancestors y_own y_many y_home y_name y_length y_op y_first y_second y_ruleKind y_ruleClasses y_ruleNames y_inlined y_number y_newName y_family y_vMethod y_vLine y_vHeld y_put → Q (y_classes, y_methods, y_rules, y_place, y_named, y_made, y_namedMethods, y_live, y_built, y_depth, y_steps, y_outs, y_ending, y_isInterface, y_isAbstract, y_parent, y_ancestors, y_own, y_many, y_home, y_name, y_length, y_op, y_first, y_second, y_ruleKind, y_ruleClasses, y_ruleNames, y_inlined, y_number, y_newName, y_family, y_vMethod, y_vLine, y_vHeld, y_put)) → wY_call_87 Q (oI (some t)) (nI C) (nI M) y_rules y_place y_named y_made y_namedMethods y_live y_built (nI (k + 1)) (nI (s + 1)) (nI o) (-1) x_isInterfaceClass y_isAbstract y_parent x_ancestorsOf x_interfacesOf y_many x_homeOf y_name y_length y_op y_first y_second x_ruleKind x_ruleClasses x_ruleNames y_inlined y_number y_newName y_family vm vl vh oi) → GB ypost) → wX_doInstruction_205 P (nI k) (nI C) (nI M) x_ruleCount x_isBuilt x_faultPlace x_namedClasses x_madeClasses x_namedMethods x_liveMethods (nI (k + 1)) (nI (s + 1)) (nI o) x_traceCount x_isInterfaceClass x_chainOf x_interfacesOf x_ancestorsOf x_homeOf x_formOf x_nameOf x_lengthOf x_opOf x_classOf x_numberOf x_sourceMethod x_sourceLine x_callLine x_ruleKind x_ruleClasses x_ruleNames x_newNumber x_familyOf x_sightOf fr fl fh oi x_traceMethod x_traceLine := fun yc => by
      unfold wX_doInstruction_205
      have hft : ∀ g, some t = some g → g < 30 := fun g e => by
        have : t = g := by simpa using e
        omega
      refine pk_eq (k + 1) 8 (fun z8 => KE 4 (by decide) (by decide) (yend 4 (by decide) (fun yp n' hn => yc yp n' (fun Q hQ => ca_y k8 hft (fun e => absurd e (by simp)) (fun _ _ _ => hQ hn) (fun _ _ z => by omega))))) (fun z8 => ?_)
      have psh : ∀ ypost : Int32 → SY → Prop, (∃ n, wY_run_162 ypost (nI w) n (nI C) (nI M) y_rules y_place y_named y_made y_namedMethods y_live y_built (nI (k + 2)) (nI (s + 1)) (nI o) (-1) x_isInterfaceClass y_isAbstract y_parent x_ancestorsOf x_interfacesOf y_many x_homeOf y_name y_length y_op y_first y_second x_ruleKind x_ruleClasses x_ruleNames y_inlined y_number y_newName y_family (upd vm (k + 1) (nI t)) (upd vl (k + 1) 0) (upd vh (k + 1) (vh k)) oi) → GB ypost := fun yp ⟨n', hn⟩ =>
        yc yp n' (fun Q hQ => ca_y k8 hft (fun e => absurd e (by simp)) (fun _ _ z => by omega) (fun g e _ => by
          have : t = g := by simpa using e
          subst this; exact hQ hn))
      unfold wX_doInstruction_218
      rw [nI_c (show k < 10000 by omega)]
      refine ⟨ik, ik, nm_e ?_⟩
      rcases Nat.eq_zero_or_pos (hq_t (y_length t)) with l0 | l0
      · rw [l0] at px1
        refine KG0 (k + 1) o fr _ fh (upd vm (k + 1) (nI t)) (upd (upd vl (k + 1) 0) k (vl k + 1)) (upd vh (k + 1) (vh k)) oi (adv _ fh _ _ _ (x + 1) (fun j hj => pk_un hj) (fun _ _ => rfl) (fun j hj => pk_un (by omega)) (fun j hj => by rw [pk_un (by omega), pk_un (by omega)]) (fun j hj => pk_un (by omega)) ?_ ?_ (by omega) ?_ ?_) (by omega) (fun yp h => psh yp ?_)
        · rw [pk_us, f4, nI_1, px1]
        · rw [pk_us, f3, nI_1]
        · rw [pk_un (by omega)]; exact f5
        · rw [pk_un (by omega)]; exact f6
        · refine y_pop hw (e := k + 1) (m := t) (by omega) pk_us (by omega) (by rw [pk_us, lt1, l0]; decide) ?_
          rw [if_neg (by omega), Nat.add_sub_cancel, pk_un (show k ≠ k + 1 by omega)]
          exact h
      · refine KG1 (k + 1) k m x t 0 o fr _ fh (upd vm (k + 1) (nI t)) (upd vl (k + 1) 0) (upd vh (k + 1) (vh k)) oi rfl ⟨by omega, ?_, mM, mF, xl, et, tM, l0, f1, ?_, ?_, ?_, ?_, ?_, pk_us, pk_us, ?_⟩ (by omega) psh
        · exact lo_cg lo (Nat.le_refl _) (fun _ _ => rfl) (fun j hj => pk_un (by omega)) (fun _ _ => rfl) (fun j hj => pk_un (by omega)) (fun j hj => pk_un (by omega)) (fun j hj => pk_un (by omega))
        · rw [pk_un (by omega)]; exact f2
        · rw [pk_un (by omega)]; exact f3
        · rw [pk_us, f4, nI_1]
        · rw [pk_un (by omega)]; exact f5
        · rw [pk_un (by omega)]; exact f6
        · rw [pk_us]; exact f6
    refine nm_r cO (br_f (by decide) (br_f (by decide) (br_f (by decide) (br_f (by decide) (br_f (by decide) (br_f (by decide) (br_f (by decide) (br_f (by decide) (br_t rfl ⟨ip, ?_⟩)))))))))
    rcases cP with ⟨z, cp⟩ | ⟨z, cp⟩
    · subst z
      obtain ⟨c, cC, ec⟩ := hc (by omega) (by omega)
      have hce : hq_t (y_first (6 * m + x)) = c := by rw [ec]; exact hq_e (by omega)
      rw [cp, ec]
      refine br_f (oI_n (by omega)) ⟨ip, xi_b h10 k8 cC f6x (fun h hC eh b => e205 (fun yp n' hh => ?_)) (fun nf => ?_)⟩
      · have ehy : vh k = nI h := by rw [← f5]; exact eh
        refine yst yp n' (fun Q hQ => ys_b h10 k8 (by omega) ey q6 hc f6 (fun h' hC' eh' _ _ b' => ?_) (fun nf => absurd ⟨h, hC, ehy, by omega, by omega, by rw [hce]; exact b⟩ nf))
        unfold wY_step_60
        rw [nI_c (show 6 * m + x < 10000 by omega)]
        exact ⟨ij, nm_r ey (br_f (by decide) (br_f (by decide) (br_f (by decide) (br_f (by decide) (br_t rfl (br_1 (enter (hh _ (fun q => hQ q)))))))))⟩
      · refine KE 2 (by decide) (by decide) (yend 2 (by decide) (fun yp n' hn => yst yp n' (fun Q hQ => ys_b h10 k8 (by omega) ey q6 hc f6 (fun h hC eh _ _ b => absurd ⟨h, hC, by rw [f5]; exact eh, by rw [← hce]; exact b⟩ nf) (fun _ => ?_))))
        unfold wY_step_60
        rw [nI_c (show 6 * m + x < 10000 by omega)]
        exact ⟨ij, nm_r ey (br_f (by decide) (br_f (by decide) (br_f (by decide) (br_f (by decide) (br_t rfl (br_0 (hQ hn)))))))⟩
    · subst z
      rw [cp]
      refine br_t rfl (e205 (fun yp n' hh => yst yp n' (fun Q hQ => ?_)))
      have st : ∀ x5 z0, wY_step_60 Q (nI w) (nI k) (nI (6 * m + x)) (y_first (6 * m + x)) x5 z0 (nI C) (nI M) y_rules y_place y_named y_made y_namedMethods y_live y_built (nI (k + 1)) (nI (s + 1)) (nI o) (-1) x_isInterfaceClass y_isAbstract y_parent x_ancestorsOf x_interfacesOf y_many x_homeOf y_name y_length y_op y_first y_second x_ruleKind x_ruleClasses x_ruleNames y_inlined y_number y_newName y_family vm vl vh oi := fun x5 z0 => by
        unfold wY_step_60
        rw [nI_c (show 6 * m + x < 10000 by omega)]
        exact ⟨ij, nm_r ey (br_f (by decide) (br_f (by decide) (br_f (by decide) (br_f (by decide) (br_f (by decide) (br_t rfl (enter (hh _ (fun q => hQ q)))))))))⟩
      exact ys_b h10 k8 (by omega) ey q6 hc f6 (fun _ _ _ _ _ _ => st _ _) (fun _ => st _ _)
end
end
section
/-! ===== running: one instruction that was inlined ===== -/
section
variable {x_classCount x_methodCount x_ruleCount x_isBuilt x_faultPlace x_namedClasses x_madeClasses x_namedMethods x_liveMethods x_depth x_stepCount x_outCount x_traceCount : Int32} {x_isInterfaceClass x_chainOf x_interfacesOf x_ancestorsOf x_homeOf x_formOf x_nameOf x_lengthOf x_opOf x_classOf x_numberOf x_sourceMethod x_sourceLine x_callLine x_ruleKind x_ruleClasses x_ruleNames x_newNumber x_familyOf x_sightOf x_frameRow x_frameLine x_frameHeld x_outInts x_traceMethod x_traceLine : Nat → Int32} {y_classes y_methods y_rules y_place y_named y_made y_namedMethods y_live y_built y_depth y_steps y_outs y_ending : Int32} {y_isInterface y_isAbstract y_parent y_ancestors y_own y_many y_home y_name y_length y_op y_first y_second y_ruleKind y_ruleClasses y_ruleNames y_inlined y_number y_newName y_family y_vMethod y_vLine y_vHeld y_put : Nat → Int32} {C M R w s o k : Nat} {inl fr fl fh vm vl vh oi : Nat → Int32} {P : Int32 → SX → Prop} {GB : (Int32 → SY → Prop) → Prop}
theorem xd_1 (T : tp_p C M R x_isInterfaceClass x_ancestorsOf x_interfacesOf x_chainOf y_parent y_many x_homeOf x_ruleKind x_ruleClasses x_ruleNames x_formOf x_nameOf x_lengthOf y_isAbstract y_name y_length x_opOf x_classOf x_numberOf x_sourceMethod x_sourceLine x_callLine y_op y_first y_second) (hw : w < 2) (sm : sm_p C M w inl y_length y_op y_first y_second x_formOf x_lengthOf x_opOf x_classOf x_numberOf x_sourceMethod x_sourceLine x_callLine y_inlined) (hl6 : ∀ m, m < M → y_length m = nI (hq_t (y_length m)) ∧ hq_t (y_length m) ≤ 6) {m x t j : Nat} (s1 : s1_p C M w inl y_length x_formOf fr fl fh vm vl vh k m x t j) (hos : o ≤ s) (s2 : s < 200)
    (g : ∀ ypost : Int32 → SY → Prop, (∃ n, wY_run_162 ypost (nI w) n (nI C) (nI M) y_rules y_place y_named y_made y_namedMethods y_live y_built (nI (k + 2)) (nI s) (nI o) (-1) x_isInterfaceClass y_isAbstract y_parent x_ancestorsOf x_interfacesOf y_many x_homeOf y_name y_length y_op y_first y_second x_ruleKind x_ruleClasses x_ruleNames y_inlined y_number y_newName y_family vm vl vh oi) → GB ypost)
    (KE : ∀ r : Int32, 0 ≤ r → ¬ r = -1 → (∀ ypost : Int32 → SY → Prop, ypost r (nI C, nI M, y_rules, y_place, y_named, y_made, y_namedMethods, y_live, y_built, nI (k + 2), nI (s + 1), nI o, r, x_isInterfaceClass, y_isAbstract, y_parent, x_ancestorsOf, x_interfacesOf, y_many, x_homeOf, y_name, y_length, y_op, y_first, y_second, x_ruleKind, x_ruleClasses, x_ruleNames, y_inlined, y_number, y_newName, y_family, vm, vl, vh, oi) → GB ypost) → P r (nI C, nI M, x_ruleCount, x_isBuilt, x_faultPlace, x_namedClasses, x_madeClasses, x_namedMethods, x_liveMethods, nI (k + 1), nI (s + 1), nI o, x_traceCount, x_isInterfaceClass, x_chainOf, x_interfacesOf, x_ancestorsOf, x_homeOf, x_formOf, x_nameOf, x_lengthOf, x_opOf, x_classOf, x_numberOf, x_sourceMethod, x_sourceLine, x_callLine, x_ruleKind, x_ruleClasses, x_ruleNames, x_newNumber, x_familyOf, x_sightOf, fr, fl, fh, oi, x_traceMethod, x_traceLine)) (KG0 : ∀ (d o' : Nat) (fr fl fh vm vl vh oi : Nat → Int32), s0_p C M w inl y_length x_formOf fr fl fh vm vl vh d → o' ≤ s + 1 → (∀ ypost : Int32 → SY → Prop, (∃ n, wY_run_162 ypost (nI w) n (nI C) (nI M) y_rules y_place y_named y_made y_namedMethods y_live y_built (nI d) (nI (s + 1)) (nI o') (-1) x_isInterfaceClass y_isAbstract y_parent x_ancestorsOf x_interfacesOf y_many x_homeOf y_name y_length y_op y_first y_second x_ruleKind x_ruleClasses x_ruleNames y_inlined y_number y_newName y_family vm vl vh oi) → GB ypost) → P (-1) (nI C, nI M, x_ruleCount, x_isBuilt, x_faultPlace, x_namedClasses, x_madeClasses, x_namedMethods, x_liveMethods, nI d, nI (s + 1), nI o', x_traceCount, x_isInterfaceClass, x_chainOf, x_interfacesOf, x_ancestorsOf, x_homeOf, x_formOf, x_nameOf, x_lengthOf, x_opOf, x_classOf, x_numberOf, x_sourceMethod, x_sourceLine, x_callLine, x_ruleKind, x_ruleClasses, x_ruleNames, x_newNumber, x_familyOf, x_sightOf, fr, fl, fh, oi, x_traceMethod, x_traceLine)) (KG1 : ∀ (d k m x t j o' : Nat) (fr fl fh vm vl vh oi : Nat → Int32), d = k + 1 → s1_p C M w inl y_length x_formOf fr fl fh vm vl vh k m x t j → o' ≤ s + 1 → (∀ ypost : Int32 → SY → Prop, (∃ n, wY_run_162 ypost (nI w) n (nI C) (nI M) y_rules y_place y_named y_made y_namedMethods y_live y_built (nI (k + 2)) (nI (s + 1)) (nI o') (-1) x_isInterfaceClass y_isAbstract y_parent x_ancestorsOf x_interfacesOf y_many x_homeOf y_name y_length y_op y_first y_second x_ruleKind x_ruleClasses x_ruleNames y_inlined y_number y_newName y_family vm vl vh oi) → GB ypost) → P (-1) (nI C, nI M, x_ruleCount, x_isBuilt, x_faultPlace, x_namedClasses, x_madeClasses, x_namedMethods, x_liveMethods, nI d, nI (s + 1), nI o', x_traceCount, x_isInterfaceClass, x_chainOf, x_interfacesOf, x_ancestorsOf, x_homeOf, x_formOf, x_nameOf, x_lengthOf, x_opOf, x_classOf, x_numberOf, x_sourceMethod, x_sourceLine, x_callLine, x_ruleKind, x_ruleClasses, x_ruleNames, x_newNumber, x_familyOf, x_sightOf, fr, fl, fh, oi, x_traceMethod, x_traceLine)) : wpX_doInstruction P (nI C, nI M, x_ruleCount, x_isBuilt, x_faultPlace, x_namedClasses, x_madeClasses, x_namedMethods, x_liveMethods, nI (k + 1), nI (s + 1), nI o, x_traceCount, x_isInterfaceClass, x_chainOf, x_interfacesOf, x_ancestorsOf, x_homeOf, x_formOf, x_nameOf, x_lengthOf, x_opOf, x_classOf, x_numberOf, x_sourceMethod, x_sourceLine, x_callLine, x_ruleKind, x_ruleClasses, x_ruleNames, x_newNumber, x_familyOf, x_sightOf, fr, fl, fh, oi, x_traceMethod, x_traceLine) (nI w) := by
  have h30 := T.2.2.1.1
  have h10 := T.1.1
  obtain ⟨k8, lo, mM, mF, xl, et, tM, jl, f1, f2, f3, f4, f5, f6, f7, f8, f9⟩ := s1
  have l6 := hl6 m mM
  have lt := hl6 t tM
  have p24 := po_24 sm.1 h30 mM l6.2
  have nn : ¬ inl (6 * m + x) < 0 := by rw [et]; exact nI_pos (by omega)
  have ht : hq_t (inl (6 * m + x)) = t := by rw [et]; exact hq_e (by omega)
  have gr := gy_t xl nn
  rw [ht] at gr
  have px1 := po_s inl y_length m x
  rw [gr] at px1
  have mo : po_n inl y_length m (x + 1) ≤ po_n inl y_length m (hq_t (y_length m)) := ps_mo (gr := gy_n inl y_length m) xl
  obtain ⟨q0, q06, ey0, hc0, _, _, _, _, ci⟩ := sm.2.2 m x mM mF xl
  obtain ⟨w1, yin, _, _, t', tM', et', l3, lines⟩ := ci nn
  have tt : t' = t := by rw [et] at et'; exact ((nI_eq (by omega) (by omega)).mp et').symm
  subst tt
  obtain ⟨q, q05, ey, cO, cN, cS, cU, cA⟩ := lines j jl
  have ee : 24 * (30 * w + m) + po_n inl y_length m x + 1 + j = 24 * (30 * w + m) + (po_n inl y_length m x + 1 + j) := by omega
  rw [ee] at cO cN cS cU cA
  have ik : vp_in (nI k) 8 := vp_in_nI (by omega) (by decide)
  have ik1 : vp_in (nI (k + 1)) 8 := vp_in_nI (by omega) (by decide)
  have ij : vp_in (nI (6 * t' + j)) 180 := vp_in_nI (by omega) (by decide)
  have ip : vp_in (nI (24 * (30 * w + m) + (po_n inl y_length m x + 1 + j))) 1440 := vp_in_nI (by omega) (by decide)
  have io : vp_in (nI o) 200 := vp_in_nI (by omega) (by decide)
  have yst : ∀ (ypost : Int32 → SY → Prop) (n : Nat), (∀ Q : SY → Prop, (∀ {y_classes y_methods y_rules y_place y_named y_made y_namedMethods y_live y_built y_depth y_steps y_outs y_ending : Int32} {y_isInterface y_isAbstract y_parent y_ancestors y_own y_many y_home y_name y_length y_op y_first y_second y_ruleKind y_ruleClasses y_ruleNames y_inlined y_number y_newName y_family y_vMethod y_vLine y_vHeld y_put : Nat → Int32}, wY_run_162 ypost (nI w) n y_classes y_methods y_rules y_place y_named y_made y_namedMethods y_live y_built y_depth y_steps y_outs y_ending y_isInterface y_isAbstract y_parent y_ancestors y_own y_many y_home y_name y_length y_op y_first y_second y_ruleKind y_ruleClasses y_ruleNames y_inlined y_number y_newName y_family y_vMethod y_vLine y_vHeld y_put → Q (y_classes, y_methods, y_rules, y_place, y_named, y_made, y_namedMethods, y_live, y_built, y_depth, y_steps, y_outs, y_ending, y_isInterface, y_isAbstract, y_parent, y_ancestors, y_own, y_many, y_home, y_name, y_length, y_op, y_first, y_second, y_ruleKind, y_ruleClasses, y_ruleNames, y_inlined, y_number, y_newName, y_family, y_vMethod, y_vLine, y_vHeld, y_put)) → wpY_step Q (nI C, nI M, y_rules, y_place, y_named, y_made, y_namedMethods, y_live, y_built, nI (k + 1 + 1), nI (s + 1), nI o, -1, x_isInterfaceClass, y_isAbstract, y_parent, x_ancestorsOf, x_interfacesOf, y_many, x_homeOf, y_name, y_length, y_op, y_first, y_second, x_ruleKind, x_ruleClasses, x_ruleNames, y_inlined, y_number, y_newName, y_family, vm, vl, vh, oi) (nI w) (nI (k + 1)) (nI (6 * t' + j))) → GB ypost := fun yp n h =>
    g yp (y_step hw k8 f7 (by omega) f8 (by omega) (by rw [lt.1]; exact nI_lt jl (by omega)) s2 h)
  unfold wpX_doInstruction
  dsimp only
  refine nm_r (nI_pred k) ⟨ik, ik, ?_⟩
  rw [nI_c (show k < 10000 by omega), f1, f4, nI_a24]
  refine nm_e ⟨ip, ?_⟩
  rw [nI_c (show 24 * (30 * w + m) + (po_n inl y_length m x + 1 + j) < 10000 by omega)]
  rcases q05 with z | z
  · subst z
    refine nm_r cO (br_f (by decide) (br_f (by decide) (br_t rfl ⟨ip, io, nm_e (nm_r (nI_1 o) ?_)⟩)))
    rw [nI_c (show o < 10000 by omega), cN rfl]
    have out : ∀ ypost : Int32 → SY → Prop, (∃ n, wY_run_162 ypost (nI w) n (nI C) (nI M) y_rules y_place y_named y_made y_namedMethods y_live y_built (nI (k + 2)) (nI (s + 1)) (nI (o + 1)) (-1) x_isInterfaceClass y_isAbstract y_parent x_ancestorsOf x_interfacesOf y_many x_homeOf y_name y_length y_op y_first y_second x_ruleKind x_ruleClasses x_ruleNames y_inlined y_number y_newName y_family vm (upd vl (k + 1) (vl (k + 1) + 1)) vh (upd oi o (y_second (6 * t' + j)))) → GB ypost := fun yp ⟨n', hn⟩ =>
      yst yp n' (fun Q hQ => ys_b h10 k8 (by omega) ey (by omega) (fun a _ => by omega) f9 (fun _ _ _ a _ _ => by omega) (fun _ => by
        unfold wY_step_60
        rw [nI_c (show 6 * t' + j < 10000 by omega), nI_c (show k + 1 < 10000 by omega), nI_c (show o < 10000 by omega)]
        exact ⟨ij, nm_r ey (br_f (by decide) (br_f (by decide) (br_t rfl (nm_r (nI_1 o) ⟨ij, io, nm_e ⟨ik1, ik1, nm_e (hQ hn)⟩⟩))))⟩))
    unfold wX_doInstruction_218
    rw [nI_c (show k < 10000 by omega)]
    refine ⟨ik, ik, nm_e ?_⟩
    rcases Nat.lt_or_ge (j + 1) (hq_t (y_length t')) with z | z
    · refine KG1 (k + 1) k m x t' (j + 1) (o + 1) fr _ fh vm (upd vl (k + 1) (vl (k + 1) + 1)) vh _ rfl ⟨k8, ?_, mM, mF, xl, et, tM, z, f1, f2, ?_, ?_, f5, f6, f7, ?_, f9⟩ (by omega) out
      · exact lo_cg lo (Nat.le_refl _) (fun _ _ => rfl) (fun i hi => pk_un (by omega)) (fun _ _ => rfl) (fun _ _ => rfl) (fun i hi => pk_un (by omega)) (fun _ _ => rfl)
      · rw [pk_un (by omega)]; exact f3
      · rw [pk_us, f4, nI_1]; exact congrArg nI (by omega)
      · rw [pk_us, f8, nI_1]
    · refine KG0 (k + 1) (o + 1) fr _ fh vm (upd (upd vl (k + 1) (vl (k + 1) + 1)) k (vl k + 1)) vh _ ⟨by omega, ?_, fun k' hk' => ?_⟩ (by omega) (fun yp h => out yp ?_)
      · exact lo_cg lo (Nat.le_refl _) (fun _ _ => rfl) (fun i hi => pk_un (by omega)) (fun _ _ => rfl) (fun _ _ => rfl) (fun i hi => by rw [pk_un (by omega), pk_un (by omega)]) (fun _ _ => rfl)
      · have : k' = k := by omega
        subst this
        refine ⟨m, x + 1, ⟨mM, mF, f1, f2, ?_, ?_, f5, f6⟩, by omega⟩
        · rw [pk_us, f3, nI_1]
        · rw [pk_us, f4, nI_1]; exact congrArg nI (by omega)
      · refine y_pop hw (e := k + 1) (m := t') (by omega) f7 (by omega) (by rw [pk_us, f8, nI_1, lt.1]; exact nI_nlt z (by omega)) ?_
        rw [if_neg (by omega), Nat.add_sub_cancel, pk_un (show k ≠ k + 1 by omega)]
        exact h
  · subst z
    refine nm_r cO (br_f (by decide) (br_f (by decide) (br_f (by decide) (br_f (by decide) (br_f (by decide) (br_f (by decide) (br_f (by decide) (br_t rfl ?_))))))))
    refine KE 1 (by decide) (by decide) (fun yp hp => ?_)
    obtain ⟨n', hn⟩ := y_end (w := w) (by decide) hp
    refine yst yp n' (fun Q hQ => ys_b h10 k8 (by omega) ey (by omega) (fun _ a => by omega) f9 (fun _ _ _ _ a _ => by omega) (fun _ => ?_))
    unfold wY_step_60
    rw [nI_c (show 6 * t' + j < 10000 by omega)]
    exact ⟨ij, nm_r ey (br_f (by decide) (br_t (by decide) (hQ hn)))⟩
end
/-! ===== running: the steps ===== -/
section
variable {x_classCount x_methodCount x_ruleCount x_isBuilt x_faultPlace x_namedClasses x_madeClasses x_namedMethods x_liveMethods x_depth x_stepCount x_outCount x_traceCount : Int32} {x_isInterfaceClass x_chainOf x_interfacesOf x_ancestorsOf x_homeOf x_formOf x_nameOf x_lengthOf x_opOf x_classOf x_numberOf x_sourceMethod x_sourceLine x_callLine x_ruleKind x_ruleClasses x_ruleNames x_newNumber x_familyOf x_sightOf x_frameRow x_frameLine x_frameHeld x_outInts x_traceMethod x_traceLine : Nat → Int32} {y_classes y_methods y_rules y_place y_named y_made y_namedMethods y_live y_built y_depth y_steps y_outs y_ending : Int32} {y_isInterface y_isAbstract y_parent y_ancestors y_own y_many y_home y_name y_length y_op y_first y_second y_ruleKind y_ruleClasses y_ruleNames y_inlined y_number y_newName y_family y_vMethod y_vLine y_vHeld y_put : Nat → Int32} {C M R w : Nat} {inl : Nat → Int32} {GB : (Int32 → SY → Prop) → Prop}
theorem ef_v (hw : w < 2) (h30 : M ≤ 30) (hl6 : ∀ m, m < M → y_length m = nI (hq_t (y_length m)) ∧ hq_t (y_length m) ≤ 6) (sm : sm_p C M w inl y_length y_op y_first y_second x_formOf x_lengthOf x_opOf x_classOf x_numberOf x_sourceMethod x_sourceLine x_callLine y_inlined) {post : SX → Prop} {s o d e : Nat} {fr fl fh vm vl vh oi : Nat → Int32} (ss : ((e = d ∧ s0_p C M w inl y_length x_formOf fr fl fh vm vl vh d) ∨ ∃ k m x t j, d = k + 1 ∧ e = k + 2 ∧ s1_p C M w inl y_length x_formOf fr fl fh vm vl vh k m x t j)) (g : ∀ ypost : Int32 → SY → Prop, (∃ n, wY_run_162 ypost (nI w) n (nI C) (nI M) y_rules y_place y_named y_made y_namedMethods y_live y_built (nI e) (nI s) (nI o) (-1) x_isInterfaceClass y_isAbstract y_parent x_ancestorsOf x_interfacesOf y_many x_homeOf y_name y_length y_op y_first y_second x_ruleKind x_ruleClasses x_ruleNames y_inlined y_number y_newName y_family vm vl vh oi) → GB ypost)
    (K : ∀ d e fl vl, ((e = d ∧ s0_p C M w inl y_length x_formOf fr fl fh vm vl vh d ∧ ∀ k, k + 1 = d → ∃ m x, fo_q C M w inl y_length x_formOf fr fl fh vm vl vh k m x ∧ x < hq_t (y_length m)) ∨ ∃ k m x t j, d = k + 1 ∧ e = k + 2 ∧ s1_p C M w inl y_length x_formOf fr fl fh vm vl vh k m x t j) → (∀ ypost : Int32 → SY → Prop, (∃ n, wY_run_162 ypost (nI w) n (nI C) (nI M) y_rules y_place y_named y_made y_namedMethods y_live y_built (nI e) (nI s) (nI o) (-1) x_isInterfaceClass y_isAbstract y_parent x_ancestorsOf x_interfacesOf y_many x_homeOf y_name y_length y_op y_first y_second x_ruleKind x_ruleClasses x_ruleNames y_inlined y_number y_newName y_family vm vl vh oi) → GB ypost) → post (nI C, nI M, x_ruleCount, x_isBuilt, x_faultPlace, x_namedClasses, x_madeClasses, x_namedMethods, x_liveMethods, nI d, nI s, nI o, x_traceCount, x_isInterfaceClass, x_chainOf, x_interfacesOf, x_ancestorsOf, x_homeOf, x_formOf, x_nameOf, x_lengthOf, x_opOf, x_classOf, x_numberOf, x_sourceMethod, x_sourceLine, x_callLine, x_ruleKind, x_ruleClasses, x_ruleNames, x_newNumber, x_familyOf, x_sightOf, fr, fl, fh, oi, x_traceMethod, x_traceLine)) : wpX_endFinished post (nI C, nI M, x_ruleCount, x_isBuilt, x_faultPlace, x_namedClasses, x_madeClasses, x_namedMethods, x_liveMethods, nI d, nI s, nI o, x_traceCount, x_isInterfaceClass, x_chainOf, x_interfacesOf, x_ancestorsOf, x_homeOf, x_formOf, x_nameOf, x_lengthOf, x_opOf, x_classOf, x_numberOf, x_sourceMethod, x_sourceLine, x_callLine, x_ruleKind, x_ruleClasses, x_ruleNames, x_newNumber, x_familyOf, x_sightOf, fr, fl, fh, oi, x_traceMethod, x_traceLine) := by
  unfold wpX_endFinished
  rcases ss with ⟨rfl, s0⟩ | ⟨k, m, x, t, j, rfl, rfl, s1⟩
  · have d8 := s0.1
    exact ⟨e + 1, xe_f hw h30 hl6 sm (fun d fl vl a b c => K d d fl vl (Or.inl ⟨rfl, a, b⟩) c) e 0 (e + 1) fl vl (by omega) (by omega) s0 g⟩
  · have fin := K (k + 1) (k + 2) fl vl (Or.inr ⟨k, m, x, t, j, rfl, rfl, s1⟩) g
    obtain ⟨k8, lo, mM, mF, xl, et, tM, jl, f1, f2, f3, f4, f5, f6, f7, f8, f9⟩ := s1
    have l6 := hl6 m mM
    have p24 := po_24 sm.1 h30 mM l6.2
    have nn : ¬ inl (6 * m + x) < 0 := by rw [et]; exact nI_pos (by omega)
    have ht : hq_t (inl (6 * m + x)) = t := by rw [et]; exact hq_e (by omega)
    have gr := gy_t xl nn
    rw [ht] at gr
    have px1 := po_s inl y_length m x
    rw [gr] at px1
    have mo : po_n inl y_length m (x + 1) ≤ po_n inl y_length m (hq_t (y_length m)) := ps_mo (gr := gy_n inl y_length m) xl
    have ik : vp_in (nI k) 8 := vp_in_nI (by omega) (by decide)
    refine ⟨1, ?_⟩
    rw [wX_endFinished_2]
    refine br_f (by decide) (br_f (nI_nle (by omega) (by omega)) (nm_r (nI_pred k) ⟨ik, ik, ?_⟩))
    rw [nI_c (show k < 10000 by omega), f1, nI_c (show 30 * w + m < 10000 by omega), sm.2.1 m mM mF, f4]
    exact ⟨vp_in_nI (by omega) (by decide), br_f (nI_ge (by omega) (by omega)) fin⟩
theorem xs_l (T : tp_p C M R x_isInterfaceClass x_ancestorsOf x_interfacesOf x_chainOf y_parent y_many x_homeOf x_ruleKind x_ruleClasses x_ruleNames x_formOf x_nameOf x_lengthOf y_isAbstract y_name y_length x_opOf x_classOf x_numberOf x_sourceMethod x_sourceLine x_callLine y_op y_first y_second) (hw : w < 2) (sm : sm_p C M w inl y_length y_op y_first y_second x_formOf x_lengthOf x_opOf x_classOf x_numberOf x_sourceMethod x_sourceLine x_callLine y_inlined) (HY : (∀ {Q : SY → Prop} {k s o : Nat} {vm vl vh oi : Nat → Int32} {m x h : Nat} {cc : Int32}, m < M → x_formOf (30 * w + m) = 2 → x < hq_t (y_length m) → inl (6 * m + x) < 0 → (y_op (6 * m + x) = 2 ∨ y_op (6 * m + x) = 3) → h < C → (cc = nI h ∨ (cc = -1 ∧ y_first (6 * m + x) = nI h)) → wY_call_87 Q (oI (ft_v M w x_ancestorsOf x_chainOf x_homeOf x_formOf x_nameOf (x_numberOf (24 * (30 * w + m) + po_n inl y_length m x)) h)) (nI C) (nI M) y_rules y_place y_named y_made y_namedMethods y_live y_built (nI (k + 1)) (nI (s + 1)) (nI o) (-1) x_isInterfaceClass y_isAbstract y_parent x_ancestorsOf x_interfacesOf y_many x_homeOf y_name y_length y_op y_first y_second x_ruleKind x_ruleClasses x_ruleNames y_inlined y_number y_newName y_family vm vl vh oi → wpY_call Q (nI C, nI M, y_rules, y_place, y_named, y_made, y_namedMethods, y_live, y_built, nI (k + 1), nI (s + 1), nI o, -1, x_isInterfaceClass, y_isAbstract, y_parent, x_ancestorsOf, x_interfacesOf, y_many, x_homeOf, y_name, y_length, y_op, y_first, y_second, x_ruleKind, x_ruleClasses, x_ruleNames, y_inlined, y_number, y_newName, y_family, vm, vl, vh, oi) (nI w) (nI (6 * m + x)) cc)) (hl6 : ∀ m, m < M → y_length m = nI (hq_t (y_length m)) ∧ hq_t (y_length m) ≤ 6) {post : Int32 → SX → Prop}
    (K : ∀ (r : Int32) (s o d e : Nat) (fr fl fh vm vl vh oi : Nat → Int32), ((e = d ∧ s0_p C M w inl y_length x_formOf fr fl fh vm vl vh d ∧ ∀ k, k + 1 = d → ∃ m x, fo_q C M w inl y_length x_formOf fr fl fh vm vl vh k m x ∧ x < hq_t (y_length m)) ∨ ∃ k m x t j, d = k + 1 ∧ e = k + 2 ∧ s1_p C M w inl y_length x_formOf fr fl fh vm vl vh k m x t j) → o ≤ 200 → (∀ ypost : Int32 → SY → Prop, ypost r (nI C, nI M, y_rules, y_place, y_named, y_made, y_namedMethods, y_live, y_built, nI e, nI s, nI o, r, x_isInterfaceClass, y_isAbstract, y_parent, x_ancestorsOf, x_interfacesOf, y_many, x_homeOf, y_name, y_length, y_op, y_first, y_second, x_ruleKind, x_ruleClasses, x_ruleNames, y_inlined, y_number, y_newName, y_family, vm, vl, vh, oi) → GB ypost) → post r (nI C, nI M, x_ruleCount, x_isBuilt, x_faultPlace, x_namedClasses, x_madeClasses, x_namedMethods, x_liveMethods, nI d, nI s, nI o, x_traceCount, x_isInterfaceClass, x_chainOf, x_interfacesOf, x_ancestorsOf, x_homeOf, x_formOf, x_nameOf, x_lengthOf, x_opOf, x_classOf, x_numberOf, x_sourceMethod, x_sourceLine, x_callLine, x_ruleKind, x_ruleClasses, x_ruleNames, x_newNumber, x_familyOf, x_sightOf, fr, fl, fh, oi, x_traceMethod, x_traceLine)) :
    ∀ (q s f o d e : Nat) (fr fl fh vm vl vh oi : Nat → Int32), s + q = 200 → q < f → o ≤ s → ((e = d ∧ s0_p C M w inl y_length x_formOf fr fl fh vm vl vh d) ∨ ∃ k m x t j, d = k + 1 ∧ e = k + 2 ∧ s1_p C M w inl y_length x_formOf fr fl fh vm vl vh k m x t j) → (∀ ypost : Int32 → SY → Prop, (∃ n, wY_run_162 ypost (nI w) n (nI C) (nI M) y_rules y_place y_named y_made y_namedMethods y_live y_built (nI e) (nI s) (nI o) (-1) x_isInterfaceClass y_isAbstract y_parent x_ancestorsOf x_interfacesOf y_many x_homeOf y_name y_length y_op y_first y_second x_ruleKind x_ruleClasses x_ruleNames y_inlined y_number y_newName y_family vm vl vh oi) → GB ypost) → wX_doSteps_2 post (nI w) f (nI s) (nI C) (nI M) x_ruleCount x_isBuilt x_faultPlace x_namedClasses x_madeClasses x_namedMethods x_liveMethods (nI d) (nI s) (nI o) x_traceCount x_isInterfaceClass x_chainOf x_interfacesOf x_ancestorsOf x_homeOf x_formOf x_nameOf x_lengthOf x_opOf x_classOf x_numberOf x_sourceMethod x_sourceLine x_callLine x_ruleKind x_ruleClasses x_ruleNames x_newNumber x_familyOf x_sightOf fr fl fh oi x_traceMethod x_traceLine := by
  have h30 := T.2.2.1.1
  intro q
  induction q with
  | zero =>
    intro s f o d e fr fl fh vm vl vh oi es hf hos ss g
    obtain ⟨f, rfl⟩ : ∃ q, f = q + 1 := ⟨f - 1, by omega⟩
    have es : s = 200 := by omega
    rw [wX_doSteps_2]
    refine br_t (nI_le (a := 200) (by omega) (by omega)) (ef_v hw h30 hl6 sm ss g (fun d e fl vl tq g => ?_))
    dsimp only
    rcases Nat.eq_zero_or_pos d with z | z
    · subst z
      refine br_t rfl (K 0 s o 0 e fr fl fh vm vl vh oi tq (by omega) (fun yp hp => g yp ?_))
      rcases tq with ⟨rfl, _⟩ | ⟨k, _, _, _, _, h, _⟩
      · exact y_done hw hp
      · omega
    · have d9 : d < 100 := by
        rcases tq with ⟨_, a, _⟩ | ⟨k, _, _, _, _, h, _, a⟩
        · have := a.1; omega
        · have := a.1; omega
      refine br_f (nI_ne0 z (by omega)) (K 5 s o d e fr fl fh vm vl vh oi tq (by omega) (fun yp hp => g yp ?_))
      rcases tq with ⟨rfl, s0, un⟩ | ⟨k, m, x, t, j, rfl, rfl, s1⟩
      · obtain ⟨k, rfl⟩ : ∃ k, e = k + 1 := ⟨e - 1, by omega⟩
        obtain ⟨m, x, fq, xl⟩ := un k rfl
        have l6 := hl6 m fq.1
        have := s0.1
        exact y_long hw (by omega) fq.2.2.2.1 (by have := fq.1; omega) (by rw [fq.2.2.2.2.1, l6.1]; exact nI_lt xl (by omega)) es hp
      · obtain ⟨k8, lo, mM, mF, xl, et, tM, jl, f1, f2, f3, f4, f5, f6, f7, f8, f9⟩ := s1
        have lt := hl6 t tM
        exact y_long hw k8 f7 (by omega) (by rw [f8, lt.1]; exact nI_lt jl (by omega)) es hp
  | succ q ih =>
    intro s f o d e fr fl fh vm vl vh oi es hf hos ss g
    obtain ⟨f, rfl⟩ : ∃ q, f = q + 1 := ⟨f - 1, by omega⟩
    rw [wX_doSteps_2]
    refine br_f (nI_ge (b := 200) (by omega) (by decide)) (ef_v hw h30 hl6 sm ss g (fun d e fl vl tq g => ?_))
    dsimp only
    rcases Nat.eq_zero_or_pos d with z | z
    · subst z
      refine br_t rfl (K 0 s o 0 e fr fl fh vm vl vh oi tq (by omega) (fun yp hp => g yp ?_))
      rcases tq with ⟨rfl, _⟩ | ⟨k, _, _, _, _, h, _⟩
      · exact y_done hw hp
      · omega
    · rcases tq with ⟨rfl, s0, un⟩ | ⟨k, m, x, t, j, rfl, rfl, s1⟩
      · obtain ⟨k, rfl⟩ : ∃ k, e = k + 1 := ⟨e - 1, by omega⟩
        obtain ⟨m, x, fq, xl⟩ := un k rfl
        have k8 := s0.1
        refine br_f (nI_ne0 z (by omega)) (nm_r (nI_1 s) ?_)
        refine xd_0 T hw sm HY hl6 fq xl (by omega) s0.2.1 hos (by omega) g (fun r h0 hn hp => br_f hn (K r (s + 1) o (k + 1) (k + 1) fr fl fh vm vl vh oi (Or.inl ⟨rfl, s0, un⟩) (by omega) hp))
          (fun d o' fr fl fh vm vl vh oi s0 ho' g => br_t rfl (nm_r (nI_1 s) (ih (s + 1) f o' d d fr fl fh vm vl vh oi (by omega) (by omega) ho' (Or.inl ⟨rfl, s0⟩) g)))
          (fun d k m x t j o' fr fl fh vm vl vh oi ed s1 ho' g => br_t rfl (nm_r (nI_1 s) (ih (s + 1) f o' d (k + 2) fr fl fh vm vl vh oi (by omega) (by omega) ho' (Or.inr ⟨k, m, x, t, j, ed, rfl, s1⟩) g)))
      · have k8 := s1.1
        refine br_f (nI_ne0 z (by omega)) (nm_r (nI_1 s) ?_)
        refine xd_1 T hw sm hl6 s1 hos (by omega) g (fun r h0 hn hp => br_f hn (K r (s + 1) o (k + 1) (k + 2) fr fl fh vm vl vh oi (Or.inr ⟨k, m, x, t, j, rfl, rfl, s1⟩) (by omega) hp))
          (fun d o' fr fl fh vm vl vh oi s0 ho' g => br_t rfl (nm_r (nI_1 s) (ih (s + 1) f o' d d fr fl fh vm vl vh oi (by omega) (by omega) ho' (Or.inl ⟨rfl, s0⟩) g)))
          (fun d k m x t j o' fr fl fh vm vl vh oi ed s1 ho' g => br_t rfl (nm_r (nI_1 s) (ih (s + 1) f o' d (k + 2) fr fl fh vm vl vh oi (by omega) (by omega) ho' (Or.inr ⟨k, m, x, t, j, ed, rfl, s1⟩) g)))
end
end
section
/-! ===== the trace ===== -/
theorem ix_m {k : Nat} : nI k + (-1) = if k = 0 then -1 else nI (k - 1) := by
  rcases Nat.eq_zero_or_pos k with z | z
  · subst z; decide
  · obtain ⟨j, rfl⟩ : ∃ j, k = j + 1 := ⟨k - 1, by omega⟩
    rw [if_neg (by omega), pk_m1, Nat.add_sub_cancel]
section
variable {x_classCount x_methodCount x_ruleCount x_isBuilt x_faultPlace x_namedClasses x_madeClasses x_namedMethods x_liveMethods x_depth x_stepCount x_outCount x_traceCount : Int32} {x_isInterfaceClass x_chainOf x_interfacesOf x_ancestorsOf x_homeOf x_formOf x_nameOf x_lengthOf x_opOf x_classOf x_numberOf x_sourceMethod x_sourceLine x_callLine x_ruleKind x_ruleClasses x_ruleNames x_newNumber x_familyOf x_sightOf x_frameRow x_frameLine x_frameHeld x_outInts x_traceMethod x_traceLine : Nat → Int32} {y_classes y_methods y_rules y_place y_named y_made y_namedMethods y_live y_built y_depth y_steps y_outs y_ending : Int32} {y_isInterface y_isAbstract y_parent y_ancestors y_own y_many y_home y_name y_length y_op y_first y_second y_ruleKind y_ruleClasses y_ruleNames y_inlined y_number y_newName y_family y_vMethod y_vLine y_vHeld y_put : Nat → Int32} {C M w s o d e : Nat} {inl fr fl fh vm vl vh oi : Nat → Int32}
theorem rt_l (hw : w < 2) (h30 : M ≤ 30) (hl6 : ∀ m, m < M → y_length m = nI (hq_t (y_length m)) ∧ hq_t (y_length m) ≤ 6) (sm : sm_p C M w inl y_length y_op y_first y_second x_formOf x_lengthOf x_opOf x_classOf x_numberOf x_sourceMethod x_sourceLine x_callLine y_inlined) (e8 : e ≤ 8) {post : SX → Prop} (K : ∀ tm tl, tr_p e tm tl vm vl → post (nI C, nI M, x_ruleCount, x_isBuilt, x_faultPlace, x_namedClasses, x_madeClasses, x_namedMethods, x_liveMethods, nI d, nI s, nI o, nI e, x_isInterfaceClass, x_chainOf, x_interfacesOf, x_ancestorsOf, x_homeOf, x_formOf, x_nameOf, x_lengthOf, x_opOf, x_classOf, x_numberOf, x_sourceMethod, x_sourceLine, x_callLine, x_ruleKind, x_ruleClasses, x_ruleNames, x_newNumber, x_familyOf, x_sightOf, fr, fl, fh, oi, tm, tl)) :
    ∀ n c f tm tl, c + n = e → n < f → (∀ k, k < n → ∃ m x, fo_q C M w inl y_length x_formOf fr fl fh vm vl vh k m x ∧ x < hq_t (y_length m)) → (∀ i, i < c → tm i = vm (e - 1 - i) ∧ tl i = vl (e - 1 - i)) →
      wX_recordTrace_12 post f (if n = 0 then -1 else nI (n - 1)) (nI C) (nI M) x_ruleCount x_isBuilt x_faultPlace x_namedClasses x_madeClasses x_namedMethods x_liveMethods (nI d) (nI s) (nI o) (nI c) x_isInterfaceClass x_chainOf x_interfacesOf x_ancestorsOf x_homeOf x_formOf x_nameOf x_lengthOf x_opOf x_classOf x_numberOf x_sourceMethod x_sourceLine x_callLine x_ruleKind x_ruleClasses x_ruleNames x_newNumber x_familyOf x_sightOf fr fl fh oi tm tl := by
  intro n
  induction n with
  | zero =>
    intro c f tm tl en hf fq z
    obtain ⟨f, rfl⟩ : ∃ q, f = q + 1 := ⟨f - 1, by omega⟩
    have en : c = e := by omega
    subst en
    rw [if_pos rfl, wX_recordTrace_12]
    exact br_t (by decide) (K tm tl ⟨e8, z⟩)
  | succ k ih =>
    intro c f tm tl en hf fq z
    obtain ⟨f, rfl⟩ : ∃ q, f = q + 1 := ⟨f - 1, by omega⟩
    obtain ⟨m, x, ⟨mM, mF, f1, f2, f3, f4, f5, f6⟩, xl⟩ := fq k (by omega)
    have l6 := hl6 m mM
    have p24 := po_24 sm.1 h30 mM l6.2
    have plt := po_lt (inl := inl) (ylen := y_length) (m := m) xl
    obtain ⟨q, q6, ey, hc, cS, cU, cA, _⟩ := sm.2.2 m x mM mF xl
    have ik : vp_in (nI k) 8 := vp_in_nI (by omega) (by decide)
    have ic : vp_in (nI c) 8 := vp_in_nI (by omega) (by decide)
    have ip : vp_in (nI (24 * (30 * w + m) + po_n inl y_length m x)) 1440 := vp_in_nI (by omega) (by decide)
    rw [if_neg (by omega), Nat.add_sub_cancel, wX_recordTrace_12]
    refine br_f (nI_pos (by omega)) ⟨ik, ?_⟩
    rw [nI_c (show k < 10000 by omega)]
    refine nm_r f1 ⟨ik, nm_r (e' := nI (24 * (30 * w + m) + po_n inl y_length m x)) (by rw [f4, nI_a24]) ⟨ip, ip, ?_⟩⟩
    rw [nI_c (show 24 * (30 * w + m) + po_n inl y_length m x < 10000 by omega), cS, cU]
    unfold wpX_addTrace
    dsimp only
    refine br_f (nI_ge (b := 8) (by omega) (by decide)) ?_
    rw [nI_c (show c < 10000 by omega)]
    refine ⟨ic, nm_e ⟨ic, nm_e (nm_r (nI_1 c) ⟨ip, br_t cA (nm_r ix_m (ih (c + 1) f _ _ (by omega) (by omega) (fun k' hk' => fq k' (by omega)) (fun i hi => ?_)))⟩)⟩⟩
    by_cases w' : i = c
    · subst w'
      have ek : e - 1 - i = k := by omega
      rw [pk_us, pk_us, ek, f2, f3]
      exact ⟨rfl, rfl⟩
    · rw [pk_un w', pk_un w']; exact z i (by omega)
theorem xt_v (hw : w < 2) (h30 : M ≤ 30) (hl6 : ∀ m, m < M → y_length m = nI (hq_t (y_length m)) ∧ hq_t (y_length m) ≤ 6) (sm : sm_p C M w inl y_length y_op y_first y_second x_formOf x_lengthOf x_opOf x_classOf x_numberOf x_sourceMethod x_sourceLine x_callLine y_inlined) (tq : ((e = d ∧ s0_p C M w inl y_length x_formOf fr fl fh vm vl vh d ∧ ∀ k, k + 1 = d → ∃ m x, fo_q C M w inl y_length x_formOf fr fl fh vm vl vh k m x ∧ x < hq_t (y_length m)) ∨ ∃ k m x t j, d = k + 1 ∧ e = k + 2 ∧ s1_p C M w inl y_length x_formOf fr fl fh vm vl vh k m x t j)) {post : SX → Prop} (K : ∀ tm tl, e ≤ 8 → tr_p e tm tl vm vl → post (nI C, nI M, x_ruleCount, x_isBuilt, x_faultPlace, x_namedClasses, x_madeClasses, x_namedMethods, x_liveMethods, nI d, nI s, nI o, nI e, x_isInterfaceClass, x_chainOf, x_interfacesOf, x_ancestorsOf, x_homeOf, x_formOf, x_nameOf, x_lengthOf, x_opOf, x_classOf, x_numberOf, x_sourceMethod, x_sourceLine, x_callLine, x_ruleKind, x_ruleClasses, x_ruleNames, x_newNumber, x_familyOf, x_sightOf, fr, fl, fh, oi, tm, tl)) : wpX_recordTrace post (nI C, nI M, x_ruleCount, x_isBuilt, x_faultPlace, x_namedClasses, x_madeClasses, x_namedMethods, x_liveMethods, nI d, nI s, nI o, x_traceCount, x_isInterfaceClass, x_chainOf, x_interfacesOf, x_ancestorsOf, x_homeOf, x_formOf, x_nameOf, x_lengthOf, x_opOf, x_classOf, x_numberOf, x_sourceMethod, x_sourceLine, x_callLine, x_ruleKind, x_ruleClasses, x_ruleNames, x_newNumber, x_familyOf, x_sightOf, fr, fl, fh, oi, x_traceMethod, x_traceLine) := by
  unfold wpX_recordTrace
  dsimp only
  rcases tq with ⟨rfl, s0, un⟩ | ⟨k, m, x, t, j, rfl, rfl, s1⟩
  · have e8 := s0.1
    refine nm_r (e' := if e = 0 then -1 else nI (e - 1)) ?_ ⟨e + 1, ?_⟩
    · rcases Nat.eq_zero_or_pos e with z | z
      · subst z; decide
      · obtain ⟨j, rfl⟩ : ∃ j, e = j + 1 := ⟨e - 1, by omega⟩
        rw [if_neg (by omega), nI_pred, Nat.add_sub_cancel]
    · refine rt_l (vh := vh) hw h30 hl6 sm e8 (fun tm tl h => K tm tl e8 h) e 0 (e + 1) x_traceMethod x_traceLine (by omega) (by omega) (fun k hk => ?_) (fun i hi => by omega)
      rcases Nat.lt_or_ge (k + 1) e with z | z
      · obtain ⟨m, x, fq, xl, _⟩ := s0.2.1 k z
        exact ⟨m, x, fq, xl⟩
      · exact un k (by omega)
  · obtain ⟨k8, lo, mM, mF, xl, et, tM, jl, f1, f2, f3, f4, f5, f6, f7, f8, f9⟩ := s1
    have l6 := hl6 m mM
    have p24 := po_24 sm.1 h30 mM l6.2
    have nn : ¬ inl (6 * m + x) < 0 := by rw [et]; exact nI_pos (by omega)
    have ht : hq_t (inl (6 * m + x)) = t := by rw [et]; exact hq_e (by omega)
    have gr := gy_t xl nn
    rw [ht] at gr
    have px1 := po_s inl y_length m x
    rw [gr] at px1
    have mo : po_n inl y_length m (x + 1) ≤ po_n inl y_length m (hq_t (y_length m)) := ps_mo (gr := gy_n inl y_length m) xl
    obtain ⟨q0, q06, ey0, hc0, _, _, _, _, ci⟩ := sm.2.2 m x mM mF xl
    obtain ⟨w1, yin, _, _, t', tM', et', l3, lines⟩ := ci nn
    have tt : t' = t := by rw [et] at et'; exact ((nI_eq (by omega) (by omega)).mp et').symm
    subst tt
    obtain ⟨q, q05, ey, cO, cN, cS, cU, cA⟩ := lines j jl
    have ee : 24 * (30 * w + m) + po_n inl y_length m x + 1 + j = 24 * (30 * w + m) + (po_n inl y_length m x + 1 + j) := by omega
    rw [ee] at cO cN cS cU cA
    have ik : vp_in (nI k) 8 := vp_in_nI (by omega) (by decide)
    have ip : vp_in (nI (24 * (30 * w + m) + (po_n inl y_length m x + 1 + j))) 1440 := vp_in_nI (by omega) (by decide)
    refine nm_r (nI_pred k) ⟨k + 2, ?_⟩
    rw [wX_recordTrace_12]
    refine br_f (nI_pos (by omega)) ⟨ik, ?_⟩
    rw [nI_c (show k < 10000 by omega)]
    refine nm_r f1 ⟨ik, nm_r (e' := nI (24 * (30 * w + m) + (po_n inl y_length m x + 1 + j))) (by rw [f4, nI_a24]) ⟨ip, ip, ?_⟩⟩
    rw [nI_c (show 24 * (30 * w + m) + (po_n inl y_length m x + 1 + j) < 10000 by omega), cS, cU]
    unfold wpX_addTrace
    dsimp only
    refine br_f (by decide) ⟨vp_in_nI (n := 0) (by decide) (by decide), nm_e ⟨vp_in_nI (n := 0) (by decide) (by decide), nm_e (nm_e ⟨ip, br_f (by rw [cA]; exact oI_n (by omega)) ⟨by decide, ip, ?_⟩⟩)⟩⟩
    have rem : nI (30 * w + m) - nI (30 * w + m) / 30 * 30 = nI m := by
      have := pk_rem (a := 30 * w + m) (d := 30) (by omega) (by decide) (by decide)
      rw [show (30 * w + m) % 30 = m from by omega] at this
      exact this
    rw [rem, cA]
    refine br_f (by decide) ⟨vp_in_nI (n := 1) (by decide) (by decide), nm_e ⟨vp_in_nI (n := 1) (by decide) (by decide), nm_e (nm_e (nm_r ix_m ?_))⟩⟩
    refine rt_l (vh := vh) (e := k + 2) hw h30 hl6 sm (by omega) (fun tm tl h => K tm tl (by omega) h) k 2 (k + 1) _ _ (by omega) (by omega) (fun k' hk' => ?_) (fun i hi => ?_)
    · obtain ⟨m, x, fq, xl, _⟩ := lo k' (by omega)
      exact ⟨m, x, fq, xl⟩
    · rcases (by omega : i = 0 ∨ i = 1) with z | z
      · subst z
        exact ⟨f7.symm, f8.symm⟩
      · subst z
        exact ⟨f2.symm, f3.symm⟩
end
end
section
/-! ===== running: the told and the new program ===== -/
theorem po_1 (ylen : Nat → Int32) (m : Nat) : ∀ x, po_n (fun _ => -1) ylen m x = x
  | 0 => rfl
  | x + 1 => by
    rw [po_s, po_1 ylen m x, gy_1 (by decide)]
theorem fd_cg {M : Nat} {anc chn hom : Nat → Int32} {b b' : Nat → Bool} {c : Nat} (h : ∀ m, m < M → b m = b' m) : fd_v M anc chn hom b c = fd_v M anc chn hom b' c := by
  unfold fd_v
  rw [sc_lc (p := fun m => b m && bt (chn c) (hq_t (hom m))) (q := fun m => b' m && bt (chn c) (hq_t (hom m))) (fun m hm => congrArg (fun z => z && bt (chn c) (hq_t (hom m))) (h m hm)),
    sc_fc (p := fun m => b m && bt (anc c) (hq_t (hom m))) (q := fun m => b' m && bt (anc c) (hq_t (hom m))) (fun m hm => congrArg (fun z => z && bt (anc c) (hq_t (hom m))) (h m hm))]
section
variable {x_classCount x_methodCount x_ruleCount x_isBuilt x_faultPlace x_namedClasses x_madeClasses x_namedMethods x_liveMethods x_depth x_stepCount x_outCount x_traceCount : Int32} {x_isInterfaceClass x_chainOf x_interfacesOf x_ancestorsOf x_homeOf x_formOf x_nameOf x_lengthOf x_opOf x_classOf x_numberOf x_sourceMethod x_sourceLine x_callLine x_ruleKind x_ruleClasses x_ruleNames x_newNumber x_familyOf x_sightOf x_frameRow x_frameLine x_frameHeld x_outInts x_traceMethod x_traceLine : Nat → Int32} {y_classes y_methods y_rules y_place y_named y_made y_namedMethods y_live y_built y_depth y_steps y_outs y_ending : Int32} {y_isInterface y_isAbstract y_parent y_ancestors y_own y_many y_home y_name y_length y_op y_first y_second y_ruleKind y_ruleClasses y_ruleNames y_inlined y_number y_newName y_family y_vMethod y_vLine y_vHeld y_put : Nat → Int32} {C M R : Nat} {inl : Nat → Int32}
theorem sm_0 (T : tp_p C M R x_isInterfaceClass x_ancestorsOf x_interfacesOf x_chainOf y_parent y_many x_homeOf x_ruleKind x_ruleClasses x_ruleNames x_formOf x_nameOf x_lengthOf y_isAbstract y_name y_length x_opOf x_classOf x_numberOf x_sourceMethod x_sourceLine x_callLine y_op y_first y_second) (NF : ff_v C M x_isInterfaceClass x_ancestorsOf x_chainOf x_homeOf y_isAbstract y_name y_length y_op y_first y_second = none) : sm_p C M 0 (fun _ => -1) y_length y_op y_first y_second x_formOf x_lengthOf x_opOf x_classOf x_numberOf x_sourceMethod x_sourceLine x_callLine y_inlined := by
  have h30 := T.2.2.1.1
  refine ⟨fun m x hm hx => Or.inl rfl, fun m hm hF => ?_, fun m x hm hF hx => ?_⟩
  · rw [Nat.mul_zero, Nat.zero_add, po_1]
    exact (tp_len T hm).1
  · rw [Nat.mul_zero, Nat.zero_add, po_1]
    obtain ⟨o, o6, e1, e2, e3, e4, e5, e50, e5n, e6, e7, e8⟩ := T.2.2.2.2.2.1 m x hm hx
    obtain ⟨o', _, ey, _, g1, _⟩ := xc_c T NF hm hx
    have oo : o' = o := by rw [e2] at ey; exact ((nI_eq (by omega) (by omega)).mp ey).symm
    subst oo
    refine ⟨o', o6, e2, fun a b => ?_, e6, e7, e8, fun _ => ⟨e1, fun a b => ?_, e50⟩, fun n => absurd (show (-1 : Int32) < 0 by decide) n⟩
    · obtain ⟨q, qC, p1, _⟩ := g1 ⟨a, b⟩
      exact ⟨q, qC, p1⟩
    · obtain ⟨q, qC, p1, p2⟩ := g1 ⟨a, b⟩
      rw [p1, p2]
theorem sm_1 {b1 d1 kept : Int32} (T : tp_p C M R x_isInterfaceClass x_ancestorsOf x_interfacesOf x_chainOf y_parent y_many x_homeOf x_ruleKind x_ruleClasses x_ruleNames x_formOf x_nameOf x_lengthOf y_isAbstract y_name y_length x_opOf x_classOf x_numberOf x_sourceMethod x_sourceLine x_callLine y_op y_first y_second) (NF : ff_v C M x_isInterfaceClass x_ancestorsOf x_chainOf x_homeOf y_isAbstract y_name y_length y_op y_first y_second = none) (hI : ∀ m k, m < M → k < 6 → il_p C M x_ancestorsOf x_chainOf x_homeOf y_isAbstract y_name y_length y_op y_first y_second b1 d1 m k (inl (6 * m + k))) (hin : ∀ m k, m < M → k < 6 → y_inlined (6 * m + k) = inl (6 * m + k))
    (xb : xb_p C M R x_ancestorsOf x_chainOf x_homeOf x_ruleClasses x_ruleNames y_name y_length y_op y_first y_second inl x_namedClasses x_namedMethods x_liveMethods kept x_formOf x_nameOf x_lengthOf x_opOf x_classOf x_numberOf x_sourceMethod x_sourceLine x_callLine x_newNumber) : sm_p C M 1 inl y_length y_op y_first y_second x_formOf x_lengthOf x_opOf x_classOf x_numberOf x_sourceMethod x_sourceLine x_callLine y_inlined := by
  have h30 := T.2.2.1.1
  have hi : in_ok M inl y_length := in_il (fun m hm => (tp_len T hm).2.2) hI
  have lv : ∀ m, m < M → x_formOf (30 * 1 + m) = 2 → bt x_liveMethods m = true := fun m hm hF => by
    rw [Nat.mul_one, xb.1 m hm] at hF
    by_cases l : bt x_liveMethods m = true
    · exact l
    · rw [if_neg l] at hF
      by_cases n : bt x_namedMethods m = true
      · rw [if_pos n] at hF; exact absurd hF (by decide)
      · rw [if_neg n] at hF; exact absurd hF (by decide)
  refine ⟨hi, fun m hm hF => ?_, fun m x hm hF hx => ?_⟩
  · rw [Nat.mul_one, xb.2.1 m hm, if_pos (lv m hm hF)]
  · have l6 := (tp_len T hm).2.2
    rw [Nat.mul_one]
    obtain ⟨o, o6, e1, e2, e3, e4, e5, e50, e5n, e6, e7, e8⟩ := T.2.2.2.2.2.1 m x hm hx
    obtain ⟨o', _, ey, _, g1, _⟩ := xc_c T NF hm hx
    have oo : o' = o := by rw [e2] at ey; exact ((nI_eq (by omega) (by omega)).mp ey).symm
    subst oo
    obtain ⟨c1, c2, s1, s2, s3⟩ := xb.2.2.1 m hm (lv m hm hF) x hx
    have fi : 1 ≤ o' → o' ≤ 4 → x_classOf (24 * m + x) = y_first (6 * m + x) := fun a b => by
      obtain ⟨q, qC, p1, p2⟩ := g1 ⟨a, b⟩
      rw [p1, p2]
    refine ⟨o', o6, e2, fun a b => ?_, s1, s2, s3, fun n => ?_, fun n => ?_⟩
    · obtain ⟨q, qC, p1, _⟩ := g1 ⟨a, b⟩
      exact ⟨q, qC, p1⟩
    · obtain ⟨q1, q2, q3⟩ := c1 n
      refine ⟨by rw [q1]; exact e1, fun a b => by rw [q2]; exact fi a b, fun z => ?_⟩
      rw [q3]
      unfold rn_v
      rw [if_neg (by rw [e2, z]; decide)]
      exact e50 z
    · obtain ⟨q1, q2, q3, q4⟩ := c2 n
      rcases in_bl hI hm (show x < 6 by omega) with e | ⟨t, tM, et, l3, ops, oo⟩
      · rw [e] at n; exact absurd (by decide) n
      · have ht : hq_t (inl (6 * m + x)) = t := by rw [et]; exact hq_e (by omega)
        refine ⟨rfl, hin m x hm (by omega), q1, ?_, t, tM, et, l3, fun j hj => ?_⟩
        · rw [q2, e1]
          rw [e2] at oo
          rcases oo with z | z
          · have : o' = 2 := (nI_eq (a := o') (b := 2) (by omega) (by omega)).mp z
            subst this
            refine Or.inl ⟨rfl, ?_⟩
            rw [if_neg (by decide)]; exact fi (by omega) (by omega)
          · have : o' = 3 := (nI_eq (a := o') (b := 3) (by omega) (by omega)).mp z
            subst this
            exact Or.inr ⟨rfl, if_pos rfl⟩
        · obtain ⟨r1, r2, r3, r4, r5, r6⟩ := q4 j (by rw [ht]; exact hj)
          rw [ht] at r1 r3
          obtain ⟨p, p6, y1, y2, _, _, _, y50, _⟩ := T.2.2.2.2.2.1 t j tM hj
          refine ⟨p, ?_, y2, by rw [r1]; exact y1, fun z => by rw [r3]; exact y50 z, by rw [r4]; exact et, r5, r6⟩
          rcases ops j hj with z | z
          · rw [y2] at z; exact Or.inl ((nI_eq (a := p) (b := 0) (by omega) (by omega)).mp z)
          · rw [y2] at z; exact Or.inr ((nI_eq (a := p) (b := 5) (by omega) (by omega)).mp z)
/-- what is found and filled, in the told program -/
theorem ft_0 (T : tp_p C M R x_isInterfaceClass x_ancestorsOf x_interfacesOf x_chainOf y_parent y_many x_homeOf x_ruleKind x_ruleClasses x_ruleNames x_formOf x_nameOf x_lengthOf y_isAbstract y_name y_length x_opOf x_classOf x_numberOf x_sourceMethod x_sourceLine x_callLine y_op y_first y_second) {n : Int32} {h : Nat} (hC : h < C) : ft_v M 0 x_ancestorsOf x_chainOf x_homeOf x_formOf x_nameOf n h = (match fo_v M x_ancestorsOf x_chainOf x_homeOf y_name h n with
    | some g => if y_isAbstract g = 0 then some g else none
    | none => none) := by
  have bw : ∀ m, m < M → (decide (¬ x_formOf (30 * 0 + m) = 0) && decide (x_nameOf (30 * 0 + m) = n)) = decide (y_name m = n) := fun m hm => by
    obtain ⟨⟨k, _, e1, e2⟩, _, e3, _⟩ := T.2.2.2.1 m hm
    rw [Nat.mul_zero, Nat.zero_add, e1, e2]
    have : decide (¬ x_formOf m = 0) = true := by
      refine decide_eq_true ?_
      rcases e3 with ⟨_, e⟩ | ⟨_, e⟩ <;> rw [e] <;> decide
    rw [this, Bool.true_and]
  have e : fd_v M x_ancestorsOf x_chainOf x_homeOf (fun m => decide (¬ x_formOf (30 * 0 + m) = 0) && decide (x_nameOf (30 * 0 + m) = n)) h = fo_v M x_ancestorsOf x_chainOf x_homeOf y_name h n := by
    unfold fo_v
    exact fd_cg bw
  unfold ft_v
  rw [e]
  cases ef : fo_v M x_ancestorsOf x_chainOf x_homeOf y_name h n with
  | none => rfl
  | some g =>
    have gM := (fd_s T.1 hC ef).1
    show (if x_formOf (30 * 0 + g) = 2 then some g else none) = (if y_isAbstract g = 0 then some g else none)
    rw [Nat.mul_zero, Nat.zero_add]
    rcases (T.2.2.2.1 g gM).2.2.1 with ⟨a1, a2⟩ | ⟨a1, a2⟩
    · rw [if_pos a2, if_pos a1]
    · rw [if_neg (by rw [a2]; decide), if_neg a1]
/-- found in Y, told program -/
theorem yfd_0 (T : tp_p C M R x_isInterfaceClass x_ancestorsOf x_interfacesOf x_chainOf y_parent y_many x_homeOf x_ruleKind x_ruleClasses x_ruleNames x_formOf x_nameOf x_lengthOf y_isAbstract y_name y_length x_opOf x_classOf x_numberOf x_sourceMethod x_sourceLine x_callLine y_op y_first y_second) {post : Int32 → Prop} {n : Int32} {h : Nat} (hC : h < C) (hp : post (oI (ft_v M 0 x_ancestorsOf x_chainOf x_homeOf x_formOf x_nameOf n h))) : wpY_found post (nI C, nI M, y_rules, y_place, y_named, y_made, y_namedMethods, y_live, y_built, y_depth, y_steps, y_outs, y_ending, x_isInterfaceClass, y_isAbstract, y_parent, x_ancestorsOf, x_interfacesOf, y_many, x_homeOf, y_name, y_length, y_op, y_first, y_second, x_ruleKind, x_ruleClasses, x_ruleNames, y_inlined, y_number, y_newName, y_family, y_vMethod, y_vLine, y_vHeld, y_put) 0 (nI h) n := by
  have h30 := T.2.2.1.1
  rw [ft_0 T hC] at hp
  unfold wpY_found
  dsimp only
  refine br_t rfl (yo_v T rfl rfl hC ?_)
  unfold wY_found_19
  cases ef : fo_v M x_ancestorsOf x_chainOf x_homeOf y_name h n with
  | none => rw [ef] at hp; exact br_t (by decide) hp
  | some g =>
    rw [ef] at hp
    have gM := (fd_s T.1 hC ef).1
    have hp : post (oI (if y_isAbstract g = 0 then some g else none)) := hp
    rw [oI_s, nI_c (show g < 10000 by omega)]
    refine br_f (nI_pos (by omega)) (br_t rfl ⟨vp_in_nI (by omega) (by decide), br_c (fun z => ?_) (fun z => ?_)⟩)
    · rw [if_pos z] at hp; exact hp
    · rw [if_neg z] at hp; exact hp
/-- found in Y, new program -/
theorem yfn_c {post : Int32 → Prop} {c : Nat} {n : Int32} (T : tp_p C M R x_isInterfaceClass x_ancestorsOf x_interfacesOf x_chainOf y_parent y_many x_homeOf x_ruleKind x_ruleClasses x_ruleNames x_formOf x_nameOf x_lengthOf y_isAbstract y_name y_length x_opOf x_classOf x_numberOf x_sourceMethod x_sourceLine x_callLine y_op y_first y_second) (hl : ss_le y_live y_namedMethods) (hf : ∀ m, m < M → ∃ f, f < 30 ∧ y_family m = nI f) (un : un_ok M x_homeOf (fun m => bt y_namedMethods m && decide (y_newName (hq_t (y_family m)) = n)))
    (hp : post (oI (sc_l (fun m => (bt y_namedMethods m && decide (y_newName (hq_t (y_family m)) = n)) && bt (x_chainOf c) (hq_t (x_homeOf m))) M))) :
    ∀ d f, d < C → d + 1 < f → sc_l (fun m => (bt y_namedMethods m && decide (y_newName (hq_t (y_family m)) = n)) && bt (x_chainOf c) (hq_t (x_homeOf m))) M = sc_l (fun m => (bt y_namedMethods m && decide (y_newName (hq_t (y_family m)) = n)) && bt (x_chainOf d) (hq_t (x_homeOf m))) M →
      wY_findsNew_2 post n (nI C) (nI M) y_rules y_place y_named y_made y_namedMethods y_live y_built y_depth y_steps y_outs y_ending x_isInterfaceClass y_isAbstract y_parent x_ancestorsOf x_interfacesOf y_many x_homeOf y_name y_length y_op y_first y_second x_ruleKind x_ruleClasses x_ruleNames y_inlined y_number y_newName y_family y_vMethod y_vLine y_vHeld y_put f (nI d) := by
  have h30 := T.2.2.1.1
  have h10 := T.1.1
  intro d
  induction d using Nat.strongRecOn with
  | ind d ih =>
    intro f hd hf' se
    obtain ⟨f, rfl⟩ : ∃ q, f = q + 1 := ⟨f - 1, by omega⟩
    rw [wY_findsNew_2]
    refine br_f (nI_pos (by omega)) (yst_v h30 rfl hl (mh_10 T.2.2.1 h10) hf (by omega) ?_)
    refine oI_lt (fun m e => by have := dc_b h30 e; omega) (fun e => ⟨vp_in_nI (by omega) (by decide), ?_⟩) (fun m e => ?_)
    · rw [nI_c (by omega)]
      rcases ch_n T.1 hd e with ⟨p1, p2⟩ | ⟨p, p0, p1, p2⟩
      · refine nm_r p1 ?_
        obtain ⟨f, rfl⟩ : ∃ q, f = q + 1 := ⟨f - 1, by omega⟩
        rw [wY_findsNew_2]
        rw [se.trans p2] at hp
        exact br_t (by decide) hp
      · exact nm_r p1 (ih p p0 f (by omega) (by omega) (se.trans p2))
    · rw [se.trans (ch_s T.1 T.2.2.1 un hd e)] at hp
      rw [e]
      exact hp
end
end
section
/-! ===== running: calls in the new program ===== -/
section
variable {x_classCount x_methodCount x_ruleCount x_isBuilt x_faultPlace x_namedClasses x_madeClasses x_namedMethods x_liveMethods x_depth x_stepCount x_outCount x_traceCount : Int32} {x_isInterfaceClass x_chainOf x_interfacesOf x_ancestorsOf x_homeOf x_formOf x_nameOf x_lengthOf x_opOf x_classOf x_numberOf x_sourceMethod x_sourceLine x_callLine x_ruleKind x_ruleClasses x_ruleNames x_newNumber x_familyOf x_sightOf x_frameRow x_frameLine x_frameHeld x_outInts x_traceMethod x_traceLine : Nat → Int32} {y_classes y_methods y_rules y_place y_named y_made y_namedMethods y_live y_built y_depth y_steps y_outs y_ending : Int32} {y_isInterface y_isAbstract y_parent y_ancestors y_own y_many y_home y_name y_length y_op y_first y_second y_ruleKind y_ruleClasses y_ruleNames y_inlined y_number y_newName y_family y_vMethod y_vLine y_vHeld y_put : Nat → Int32} {C M R w : Nat} {inl : Nat → Int32} {kept : Int32}
theorem fam_b (h30 : M ≤ 30) (yf : ∀ m, m < M → y_family m = nI (kn_f C M x_ancestorsOf x_homeOf y_name x_namedClasses x_namedMethods m)) (yw : ∀ m, m < M → y_newName m = na_it C M R x_ancestorsOf x_homeOf y_name x_ruleClasses x_ruleNames x_namedClasses x_namedMethods M m) : ∀ m, m < M → ∃ f, f < 30 ∧ y_family m = nI f := fun m hm =>
  ⟨_, by have := kn_le (C := C) (M := M) (anc := x_ancestorsOf) (hom := x_homeOf) (nam := y_name) (N := x_namedClasses) (Q := x_namedMethods) m; omega, yf m hm⟩
theorem nn_e (h30 : M ≤ 30) (xb : xb_p C M R x_ancestorsOf x_chainOf x_homeOf x_ruleClasses x_ruleNames y_name y_length y_op y_first y_second inl x_namedClasses x_namedMethods x_liveMethods kept x_formOf x_nameOf x_lengthOf x_opOf x_classOf x_numberOf x_sourceMethod x_sourceLine x_callLine x_newNumber) (yf : ∀ m, m < M → y_family m = nI (kn_f C M x_ancestorsOf x_homeOf y_name x_namedClasses x_namedMethods m)) (yw : ∀ m, m < M → y_newName m = na_it C M R x_ancestorsOf x_homeOf y_name x_ruleClasses x_ruleNames x_namedClasses x_namedMethods M m) : ∀ m, m < M → y_newName (hq_t (y_family m)) = x_nameOf (30 + m) ∧ y_newName (hq_t (y_family m)) = na_it C M R x_ancestorsOf x_homeOf y_name x_ruleClasses x_ruleNames x_namedClasses x_namedMethods M (kn_f C M x_ancestorsOf x_homeOf y_name x_namedClasses x_namedMethods m) := fun m hm => by
  have kl := kn_le (C := C) (M := M) (anc := x_ancestorsOf) (hom := x_homeOf) (nam := y_name) (N := x_namedClasses) (Q := x_namedMethods) m
  rw [yf m hm, hq_e (by omega), yw _ (by omega), xb.2.2.2.1 m hm]
  exact ⟨rfl, rfl⟩
theorem un_1 (T : tp_p C M R x_isInterfaceClass x_ancestorsOf x_interfacesOf x_chainOf y_parent y_many x_homeOf x_ruleKind x_ruleClasses x_ruleNames x_formOf x_nameOf x_lengthOf y_isAbstract y_name y_length x_opOf x_classOf x_numberOf x_sourceMethod x_sourceLine x_callLine y_op y_first y_second) (xb : xb_p C M R x_ancestorsOf x_chainOf x_homeOf x_ruleClasses x_ruleNames y_name y_length y_op y_first y_second inl x_namedClasses x_namedMethods x_liveMethods kept x_formOf x_nameOf x_lengthOf x_opOf x_classOf x_numberOf x_sourceMethod x_sourceLine x_callLine x_newNumber) (yf : ∀ m, m < M → y_family m = nI (kn_f C M x_ancestorsOf x_homeOf y_name x_namedClasses x_namedMethods m)) (yw : ∀ m, m < M → y_newName m = na_it C M R x_ancestorsOf x_homeOf y_name x_ruleClasses x_ruleNames x_namedClasses x_namedMethods M m) (ml : ss_le x_liveMethods x_namedMethods ∧ (∀ i, bt x_namedClasses i = true → i < C) ∧ (∀ i, bt x_madeClasses i = true → i < C) ∧ (∀ i, bt x_namedMethods i = true → i < M) ∧ (∀ i j, bt x_namedClasses i = true → bt (x_ancestorsOf i) j = true → bt x_namedClasses j = true) ∧ (∀ m, bt x_namedMethods m = true → bt x_namedClasses (hq_t (x_homeOf m)) = true) ∧ (∀ m, bt x_liveMethods m = true → y_isAbstract m = 0)) (n : Int32) : un_ok M x_homeOf (fun m => bt x_namedMethods m && decide (y_newName (hq_t (y_family m)) = n)) := fun a b ha hb qa qb eh => by
  have h30 := T.2.2.1.1
  rw [bb_a, decide_eq_true_eq] at qa qb
  have hnn : ∀ m, m < M → ∃ n, n < 10 ∧ y_name m = nI n := fun m hm => by
    obtain ⟨⟨n, n10, _, e⟩, _⟩ := T.2.2.2.1 m hm
    exact ⟨n, n10, e⟩
  refine na_un (na_all (C := C) (R := R) (anc := x_ancestorsOf) (hom := x_homeOf) (rc := x_ruleClasses) (rn := x_ruleNames) (N := x_namedClasses) (Q := x_namedMethods) h30 hnn M (Nat.le_refl M)) (fun m hm q => ?_) T.2.2.2.2.1 ha hb qa.1 qb.1 ?_ eh
  · have hc := (mh_h T.2.2.1 T.1.1 hm).2
    exact ⟨hc, ml.2.2.2.2.2.1 m q, (T.1.2 _ hc).1⟩
  · rw [← (nn_e h30 xb yf yw a ha).2, ← (nn_e h30 xb yf yw b hb).2, qa.2, qb.2]
theorem ft_1 (T : tp_p C M R x_isInterfaceClass x_ancestorsOf x_interfacesOf x_chainOf y_parent y_many x_homeOf x_ruleKind x_ruleClasses x_ruleNames x_formOf x_nameOf x_lengthOf y_isAbstract y_name y_length x_opOf x_classOf x_numberOf x_sourceMethod x_sourceLine x_callLine y_op y_first y_second) (xb : xb_p C M R x_ancestorsOf x_chainOf x_homeOf x_ruleClasses x_ruleNames y_name y_length y_op y_first y_second inl x_namedClasses x_namedMethods x_liveMethods kept x_formOf x_nameOf x_lengthOf x_opOf x_classOf x_numberOf x_sourceMethod x_sourceLine x_callLine x_newNumber) (yf : ∀ m, m < M → y_family m = nI (kn_f C M x_ancestorsOf x_homeOf y_name x_namedClasses x_namedMethods m)) (yw : ∀ m, m < M → y_newName m = na_it C M R x_ancestorsOf x_homeOf y_name x_ruleClasses x_ruleNames x_namedClasses x_namedMethods M m) (ml : ss_le x_liveMethods x_namedMethods ∧ (∀ i, bt x_namedClasses i = true → i < C) ∧ (∀ i, bt x_madeClasses i = true → i < C) ∧ (∀ i, bt x_namedMethods i = true → i < M) ∧ (∀ i j, bt x_namedClasses i = true → bt (x_ancestorsOf i) j = true → bt x_namedClasses j = true) ∧ (∀ m, bt x_namedMethods m = true → bt x_namedClasses (hq_t (x_homeOf m)) = true) ∧ (∀ m, bt x_liveMethods m = true → y_isAbstract m = 0)) {n : Int32} {h : Nat} (hC : h < C) : ft_v M 1 x_ancestorsOf x_chainOf x_homeOf x_formOf x_nameOf n h = (match sc_l (fun m => (fun m => bt x_namedMethods m && decide (y_newName (hq_t (y_family m)) = n)) m && bt (x_chainOf h) (hq_t (x_homeOf m))) M with
    | some g => if bt x_liveMethods g = true then some g else none
    | none => none) := by
  have h30 := T.2.2.1.1
  have fz : ∀ m, m < M → (x_formOf (30 + m) = 0 ↔ ¬ bt x_namedMethods m = true) := fun m hm => by
    rw [xb.1 m hm]
    by_cases l : bt x_liveMethods m = true
    · rw [if_pos l]; exact ⟨fun q => absurd q (by decide), fun q => absurd (ml.1 m l) q⟩
    · rw [if_neg l]
      by_cases n : bt x_namedMethods m = true
      · rw [if_pos n]; exact ⟨fun q => absurd q (by decide), fun q => absurd n q⟩
      · rw [if_neg n]; exact ⟨fun _ => n, fun _ => rfl⟩
  have f2 : ∀ m, m < M → (x_formOf (30 * 1 + m) = 2 ↔ bt x_liveMethods m = true) := fun m hm => by
    rw [Nat.mul_one, xb.1 m hm]
    by_cases l : bt x_liveMethods m = true
    · rw [if_pos l]; exact ⟨fun _ => l, fun _ => rfl⟩
    · rw [if_neg l]
      by_cases n : bt x_namedMethods m = true
      · rw [if_pos n]; exact ⟨fun q => absurd q (by decide), fun q => absurd q l⟩
      · rw [if_neg n]; exact ⟨fun q => absurd q (by decide), fun q => absurd q l⟩
  have bw : ∀ m, m < M → (decide (¬ x_formOf (30 * 1 + m) = 0) && decide (x_nameOf (30 * 1 + m) = n)) = (fun m => bt x_namedMethods m && decide (y_newName (hq_t (y_family m)) = n)) m := fun m hm => by
    show _ = (bt x_namedMethods m && decide (y_newName (hq_t (y_family m)) = n))
    rw [Nat.mul_one, (nn_e h30 xb yf yw m hm).1]
    congr 1
    exact Bool.eq_iff_iff.mpr ⟨fun z => by
      have := of_decide_eq_true z
      rw [fz m hm] at this
      exact Decidable.byContradiction this, fun z => decide_eq_true (fun q => (fz m hm).mp q z)⟩
  unfold ft_v
  rw [fd_cg bw]
  have ev : ∀ g, fd_v M x_ancestorsOf x_chainOf x_homeOf (fun m => bt x_namedMethods m && decide (y_newName (hq_t (y_family m)) = n)) h = some g → g < M := fun g e => (fd_s T.1 hC e).1
  cases el : sc_l (fun m => (fun m => bt x_namedMethods m && decide (y_newName (hq_t (y_family m)) = n)) m && bt (x_chainOf h) (hq_t (x_homeOf m))) M with
  | some g =>
    have e : fd_v M x_ancestorsOf x_chainOf x_homeOf (fun m => bt x_namedMethods m && decide (y_newName (hq_t (y_family m)) = n)) h = some g := by
      unfold fd_v; rw [el]
    rw [e]
    show (if x_formOf (30 * 1 + g) = 2 then some g else none) = (if bt x_liveMethods g = true then some g else none)
    by_cases l : bt x_liveMethods g = true
    · rw [if_pos l, if_pos ((f2 g (ev g e)).mpr l)]
    · rw [if_neg l, if_neg (fun q => l ((f2 g (ev g e)).mp q))]
  | none =>
    show _ = none
    cases e : fd_v M x_ancestorsOf x_chainOf x_homeOf (fun m => bt x_namedMethods m && decide (y_newName (hq_t (y_family m)) = n)) h with
    | none => rfl
    | some g =>
      have gM := ev g e
      show (if x_formOf (30 * 1 + g) = 2 then some g else none) = none
      refine if_neg (fun q => ?_)
      have l := (f2 g gM).mp q
      by_cases ic : x_isInterfaceClass (hq_t (x_homeOf g)) = 0
      · have := fd_ch T.1 hC e ic
        rw [el] at this; exact absurd this (by simp)
      · exact (T.2.2.2.1 g gM).2.2.2 ic (ml.2.2.2.2.2.2 g l)
theorem yfd_1 (T : tp_p C M R x_isInterfaceClass x_ancestorsOf x_interfacesOf x_chainOf y_parent y_many x_homeOf x_ruleKind x_ruleClasses x_ruleNames x_formOf x_nameOf x_lengthOf y_isAbstract y_name y_length x_opOf x_classOf x_numberOf x_sourceMethod x_sourceLine x_callLine y_op y_first y_second) (xb : xb_p C M R x_ancestorsOf x_chainOf x_homeOf x_ruleClasses x_ruleNames y_name y_length y_op y_first y_second inl x_namedClasses x_namedMethods x_liveMethods kept x_formOf x_nameOf x_lengthOf x_opOf x_classOf x_numberOf x_sourceMethod x_sourceLine x_callLine x_newNumber) (yf : ∀ m, m < M → y_family m = nI (kn_f C M x_ancestorsOf x_homeOf y_name x_namedClasses x_namedMethods m)) (yw : ∀ m, m < M → y_newName m = na_it C M R x_ancestorsOf x_homeOf y_name x_ruleClasses x_ruleNames x_namedClasses x_namedMethods M m) (ml : ss_le x_liveMethods x_namedMethods ∧ (∀ i, bt x_namedClasses i = true → i < C) ∧ (∀ i, bt x_madeClasses i = true → i < C) ∧ (∀ i, bt x_namedMethods i = true → i < M) ∧ (∀ i j, bt x_namedClasses i = true → bt (x_ancestorsOf i) j = true → bt x_namedClasses j = true) ∧ (∀ m, bt x_namedMethods m = true → bt x_namedClasses (hq_t (x_homeOf m)) = true) ∧ (∀ m, bt x_liveMethods m = true → y_isAbstract m = 0)) {post : Int32 → Prop} {n : Int32} {h : Nat} (hC : h < C) (hp : post (oI (ft_v M 1 x_ancestorsOf x_chainOf x_homeOf x_formOf x_nameOf n h))) : wpY_found post (nI C, nI M, y_rules, y_place, x_namedClasses, x_madeClasses, x_namedMethods, x_liveMethods, y_built, y_depth, y_steps, y_outs, y_ending, x_isInterfaceClass, y_isAbstract, y_parent, x_ancestorsOf, x_interfacesOf, y_many, x_homeOf, y_name, y_length, y_op, y_first, y_second, x_ruleKind, x_ruleClasses, x_ruleNames, y_inlined, y_number, y_newName, y_family, y_vMethod, y_vLine, y_vHeld, y_put) 1 (nI h) n := by
  have h30 := T.2.2.1.1
  rw [ft_1 T xb yf yw ml hC] at hp
  unfold wpY_found
  dsimp only
  refine br_f (by decide) ?_
  unfold wpY_findsNew
  dsimp only
  refine ⟨h + 2, yfn_c (C := C) T ml.1 (fam_b h30 yf yw) (un_1 T xb yf yw ml n) ?_ h (h + 2) hC (by omega) rfl⟩
  unfold wY_found_19
  cases el : sc_l (fun m => (fun m => bt x_namedMethods m && decide (y_newName (hq_t (y_family m)) = n)) m && bt (x_chainOf h) (hq_t (x_homeOf m))) M with
  | none => rw [el] at hp; exact br_t (by decide) hp
  | some g =>
    rw [el] at hp
    have hp : post (oI (if bt x_liveMethods g = true then some g else none)) := hp
    have gM := (sc_le el).1
    rw [oI_s]
    refine br_f (nI_pos (by omega)) (br_f (by decide) (yb_b (by omega) (fun l => ?_) (fun l => ?_)))
    · rw [if_pos l] at hp; exact hp
    · rw [if_neg l] at hp; exact hp
theorem hy_0 (T : tp_p C M R x_isInterfaceClass x_ancestorsOf x_interfacesOf x_chainOf y_parent y_many x_homeOf x_ruleKind x_ruleClasses x_ruleNames x_formOf x_nameOf x_lengthOf y_isAbstract y_name y_length x_opOf x_classOf x_numberOf x_sourceMethod x_sourceLine x_callLine y_op y_first y_second) (w0 : w = 0) (hi : inl = fun _ => -1) : (∀ {Q : SY → Prop} {k s o : Nat} {vm vl vh oi : Nat → Int32} {m x h : Nat} {cc : Int32}, m < M → x_formOf (30 * w + m) = 2 → x < hq_t (y_length m) → inl (6 * m + x) < 0 → (y_op (6 * m + x) = 2 ∨ y_op (6 * m + x) = 3) → h < C → (cc = nI h ∨ (cc = -1 ∧ y_first (6 * m + x) = nI h)) → wY_call_87 Q (oI (ft_v M w x_ancestorsOf x_chainOf x_homeOf x_formOf x_nameOf (x_numberOf (24 * (30 * w + m) + po_n inl y_length m x)) h)) (nI C) (nI M) y_rules y_place y_named y_made y_namedMethods y_live y_built (nI (k + 1)) (nI (s + 1)) (nI o) (-1) x_isInterfaceClass y_isAbstract y_parent x_ancestorsOf x_interfacesOf y_many x_homeOf y_name y_length y_op y_first y_second x_ruleKind x_ruleClasses x_ruleNames y_inlined y_number y_newName y_family vm vl vh oi → wpY_call Q (nI C, nI M, y_rules, y_place, y_named, y_made, y_namedMethods, y_live, y_built, nI (k + 1), nI (s + 1), nI o, -1, x_isInterfaceClass, y_isAbstract, y_parent, x_ancestorsOf, x_interfacesOf, y_many, x_homeOf, y_name, y_length, y_op, y_first, y_second, x_ruleKind, x_ruleClasses, x_ruleNames, y_inlined, y_number, y_newName, y_family, vm, vl, vh, oi) (nI w) (nI (6 * m + x)) cc) := by
  subst w0 hi
  intro Q k s o vm vl vh oi m x h cc mM mF xl n o23 hC hcc hp
  have h30 := T.2.2.1.1
  have l6 := (tp_len T mM).2.2
  have ij : vp_in (nI (6 * m + x)) 180 := vp_in_nI (by omega) (by decide)
  have en : x_numberOf (24 * (30 * 0 + m) + po_n (fun _ => -1) y_length m x) = y_second (6 * m + x) := by
    rw [Nat.mul_zero, Nat.zero_add, po_1]
    obtain ⟨o, o6, e1, e2, _, _, e5, _⟩ := T.2.2.2.2.2.1 m x mM xl
    have : o = 2 ∨ o = 3 := by
      rw [e2] at o23
      rcases o23 with z | z
      · exact Or.inl ((nI_eq (a := o) (b := 2) (by omega) (by omega)).mp z)
      · exact Or.inr ((nI_eq (a := o) (b := 3) (by omega) (by omega)).mp z)
    obtain ⟨n, _, g1, g2⟩ := e5 this
    rw [g1, g2]
  rw [en] at hp
  have c14 : wY_call_14 Q (nI 0) (nI (6 * m + x)) (nI h) (nI C) (nI M) y_rules y_place y_named y_made y_namedMethods y_live y_built (nI (k + 1)) (nI (s + 1)) (nI o) (-1) x_isInterfaceClass y_isAbstract y_parent x_ancestorsOf x_interfacesOf y_many x_homeOf y_name y_length y_op y_first y_second x_ruleKind x_ruleClasses x_ruleNames y_inlined y_number y_newName y_family vm vl vh oi := by
    unfold wY_call_14
    refine br_t rfl ?_
    unfold wY_call_30
    rw [nI_c (by omega)]
    refine ⟨ij, nm_e (br_t rfl ?_)⟩
    unfold wY_call_71
    exact br_f (by decide) (yfd_0 T hC hp)
  have h10 := T.1.1
  unfold wpY_call
  dsimp only
  rcases hcc with e | ⟨e, e'⟩
  · rw [e]; exact br_t (nI_pos' (by omega)) c14
  · rw [e, nI_c (by omega), e']; exact br_f (by decide) ⟨ij, c14⟩
theorem hy_1 (T : tp_p C M R x_isInterfaceClass x_ancestorsOf x_interfacesOf x_chainOf y_parent y_many x_homeOf x_ruleKind x_ruleClasses x_ruleNames x_formOf x_nameOf x_lengthOf y_isAbstract y_name y_length x_opOf x_classOf x_numberOf x_sourceMethod x_sourceLine x_callLine y_op y_first y_second) (NF : ff_v C M x_isInterfaceClass x_ancestorsOf x_chainOf x_homeOf y_isAbstract y_name y_length y_op y_first y_second = none) (w1 : w = 1) (hin : ∀ m k, m < M → k < 6 → y_inlined (6 * m + k) = inl (6 * m + k)) (xb : xb_p C M R x_ancestorsOf x_chainOf x_homeOf x_ruleClasses x_ruleNames y_name y_length y_op y_first y_second inl x_namedClasses x_namedMethods x_liveMethods kept x_formOf x_nameOf x_lengthOf x_opOf x_classOf x_numberOf x_sourceMethod x_sourceLine x_callLine x_newNumber) (yf : ∀ m, m < M → y_family m = nI (kn_f C M x_ancestorsOf x_homeOf y_name x_namedClasses x_namedMethods m)) (yw : ∀ m, m < M → y_newName m = na_it C M R x_ancestorsOf x_homeOf y_name x_ruleClasses x_ruleNames x_namedClasses x_namedMethods M m) (ml : ss_le x_liveMethods x_namedMethods ∧ (∀ i, bt x_namedClasses i = true → i < C) ∧ (∀ i, bt x_madeClasses i = true → i < C) ∧ (∀ i, bt x_namedMethods i = true → i < M) ∧ (∀ i j, bt x_namedClasses i = true → bt (x_ancestorsOf i) j = true → bt x_namedClasses j = true) ∧ (∀ m, bt x_namedMethods m = true → bt x_namedClasses (hq_t (x_homeOf m)) = true) ∧ (∀ m, bt x_liveMethods m = true → y_isAbstract m = 0)) (m1 : x_namedClasses = y_named) (m2 : x_madeClasses = y_made) (m3 : x_namedMethods = y_namedMethods) (m4 : x_liveMethods = y_live) : (∀ {Q : SY → Prop} {k s o : Nat} {vm vl vh oi : Nat → Int32} {m x h : Nat} {cc : Int32}, m < M → x_formOf (30 * w + m) = 2 → x < hq_t (y_length m) → inl (6 * m + x) < 0 → (y_op (6 * m + x) = 2 ∨ y_op (6 * m + x) = 3) → h < C → (cc = nI h ∨ (cc = -1 ∧ y_first (6 * m + x) = nI h)) → wY_call_87 Q (oI (ft_v M w x_ancestorsOf x_chainOf x_homeOf x_formOf x_nameOf (x_numberOf (24 * (30 * w + m) + po_n inl y_length m x)) h)) (nI C) (nI M) y_rules y_place y_named y_made y_namedMethods y_live y_built (nI (k + 1)) (nI (s + 1)) (nI o) (-1) x_isInterfaceClass y_isAbstract y_parent x_ancestorsOf x_interfacesOf y_many x_homeOf y_name y_length y_op y_first y_second x_ruleKind x_ruleClasses x_ruleNames y_inlined y_number y_newName y_family vm vl vh oi → wpY_call Q (nI C, nI M, y_rules, y_place, y_named, y_made, y_namedMethods, y_live, y_built, nI (k + 1), nI (s + 1), nI o, -1, x_isInterfaceClass, y_isAbstract, y_parent, x_ancestorsOf, x_interfacesOf, y_many, x_homeOf, y_name, y_length, y_op, y_first, y_second, x_ruleKind, x_ruleClasses, x_ruleNames, y_inlined, y_number, y_newName, y_family, vm, vl, vh, oi) (nI w) (nI (6 * m + x)) cc) := by
  subst w1 m1 m2 m3 m4
  intro Q k s o vm vl vh oi m x h cc mM mF xl n o23 hC hcc hp
  have h30 := T.2.2.1.1
  have h10 := T.1.1
  have l6 := (tp_len T mM).2.2
  have ij : vp_in (nI (6 * m + x)) 180 := vp_in_nI (by omega) (by decide)
  obtain ⟨o', o6, ey, ex, g1, _, g3⟩ := xc_c T NF mM xl
  have oo : o' = 2 ∨ o' = 3 := by
    rw [ey] at o23
    rcases o23 with z | z
    · exact Or.inl ((nI_eq (a := o') (b := 2) (by omega) (by omega)).mp z)
    · exact Or.inr ((nI_eq (a := o') (b := 3) (by omega) (by omega)).mp z)
  obtain ⟨c, cC, p1, _⟩ := g1 (by omega)
  obtain ⟨_, g, eg, _⟩ := g3 oo
  have lv : bt x_liveMethods m = true := by
    rw [Nat.mul_one, xb.1 m mM] at mF
    by_cases l : bt x_liveMethods m = true
    · exact l
    · rw [if_neg l] at mF
      by_cases q : bt x_namedMethods m = true
      · rw [if_pos q] at mF; exact absurd mF (by decide)
      · rw [if_neg q] at mF; exact absurd mF (by decide)
  have eg' := eg
  rw [p1, hq_e (by omega)] at eg'
  have gM := (fd_s T.1 cC eg').1
  have en : x_numberOf (24 * (30 * 1 + m) + po_n inl y_length m x) = y_newName (hq_t (y_family g)) := by
    rw [Nat.mul_one, ((xb.2.2.1 m mM lv x xl).1 n).2.2]
    unfold rn_v
    rw [if_pos o23, eg]
    exact (nn_e h30 xb yf yw g gM).1.symm
  rw [en] at hp
  have neg : ¬ 0 ≤ inl (6 * m + x) := fun z => by
    rw [Int32.lt_iff_toInt_lt] at n
    rw [Int32.le_iff_toInt_le] at z
    omega
  have c14 : wY_call_14 Q (nI 1) (nI (6 * m + x)) (nI h) (nI C) (nI M) y_rules y_place x_namedClasses x_madeClasses x_namedMethods x_liveMethods y_built (nI (k + 1)) (nI (s + 1)) (nI o) (-1) x_isInterfaceClass y_isAbstract y_parent x_ancestorsOf x_interfacesOf y_many x_homeOf y_name y_length y_op y_first y_second x_ruleKind x_ruleClasses x_ruleNames y_inlined y_number y_newName y_family vm vl vh oi := by
    unfold wY_call_14
    rw [nI_c (by omega), hin m x mM (by omega)]
    refine br_f (by decide) ⟨ij, ?_⟩
    unfold wY_call_30
    rw [nI_c (by omega)]
    refine ⟨ij, nm_e (br_f (by decide) (br_f neg ⟨ij, ?_⟩))⟩
    rw [p1]
    refine yo_v T rfl rfl cC ?_
    rw [eg', oI_s]
    refine yw_v h30 (fam_b h30 yf yw) gM ?_
    unfold wY_call_71
    exact br_f neg (yfd_1 T xb yf yw ml hC hp)
  unfold wpY_call
  dsimp only
  rcases hcc with e | ⟨e, e'⟩
  · rw [e]; exact br_t (nI_pos' (by omega)) c14
  · rw [e, nI_c (by omega), e']; exact br_f (by decide) ⟨ij, c14⟩
end
end
section
/-! ===== run ===== -/
section
variable {x_classCount x_methodCount x_ruleCount x_isBuilt x_faultPlace x_namedClasses x_madeClasses x_namedMethods x_liveMethods x_depth x_stepCount x_outCount x_traceCount : Int32} {x_isInterfaceClass x_chainOf x_interfacesOf x_ancestorsOf x_homeOf x_formOf x_nameOf x_lengthOf x_opOf x_classOf x_numberOf x_sourceMethod x_sourceLine x_callLine x_ruleKind x_ruleClasses x_ruleNames x_newNumber x_familyOf x_sightOf x_frameRow x_frameLine x_frameHeld x_outInts x_traceMethod x_traceLine : Nat → Int32} {y_classes y_methods y_rules y_place y_named y_made y_namedMethods y_live y_built y_depth y_steps y_outs y_ending : Int32} {y_isInterface y_isAbstract y_parent y_ancestors y_own y_many y_home y_name y_length y_op y_first y_second y_ruleKind y_ruleClasses y_ruleNames y_inlined y_number y_newName y_family y_vMethod y_vLine y_vHeld y_put : Nat → Int32} {C M R w : Nat} {inl : Nat → Int32}
theorem rn_b (T : tp_p C M R x_isInterfaceClass x_ancestorsOf x_interfacesOf x_chainOf y_parent y_many x_homeOf x_ruleKind x_ruleClasses x_ruleNames x_formOf x_nameOf x_lengthOf y_isAbstract y_name y_length x_opOf x_classOf x_numberOf x_sourceMethod x_sourceLine x_callLine y_op y_first y_second) (hw : w < 2) (sm : sm_p C M w inl y_length y_op y_first y_second x_formOf x_lengthOf x_opOf x_classOf x_numberOf x_sourceMethod x_sourceLine x_callLine y_inlined) (HY : (∀ {Q : SY → Prop} {k s o : Nat} {vm vl vh oi : Nat → Int32} {m x h : Nat} {cc : Int32}, m < M → x_formOf (30 * w + m) = 2 → x < hq_t (y_length m) → inl (6 * m + x) < 0 → (y_op (6 * m + x) = 2 ∨ y_op (6 * m + x) = 3) → h < C → (cc = nI h ∨ (cc = -1 ∧ y_first (6 * m + x) = nI h)) → wY_call_87 Q (oI (ft_v M w x_ancestorsOf x_chainOf x_homeOf x_formOf x_nameOf (x_numberOf (24 * (30 * w + m) + po_n inl y_length m x)) h)) (nI C) (nI M) y_rules y_place y_named y_made y_namedMethods y_live y_built (nI (k + 1)) (nI (s + 1)) (nI o) (-1) x_isInterfaceClass y_isAbstract y_parent x_ancestorsOf x_interfacesOf y_many x_homeOf y_name y_length y_op y_first y_second x_ruleKind x_ruleClasses x_ruleNames y_inlined y_number y_newName y_family vm vl vh oi → wpY_call Q (nI C, nI M, y_rules, y_place, y_named, y_made, y_namedMethods, y_live, y_built, nI (k + 1), nI (s + 1), nI o, -1, x_isInterfaceClass, y_isAbstract, y_parent, x_ancestorsOf, x_interfacesOf, y_many, x_homeOf, y_name, y_length, y_op, y_first, y_second, x_ruleKind, x_ruleClasses, x_ruleNames, y_inlined, y_number, y_newName, y_family, vm, vl, vh, oi) (nI w) (nI (6 * m + x)) cc)) {m : Nat} (mM : m < M) (mF : x_formOf (30 * w + m) = 2) {Q : Int32 → SX → Prop}
    (K : ∀ (r : Int32) (s o d e : Nat) (fr fl fh vm vl vh oi : Nat → Int32), ((e = d ∧ s0_p C M w inl y_length x_formOf fr fl fh vm vl vh d ∧ ∀ k, k + 1 = d → ∃ m x, fo_q C M w inl y_length x_formOf fr fl fh vm vl vh k m x ∧ x < hq_t (y_length m)) ∨ ∃ k m x t j, d = k + 1 ∧ e = k + 2 ∧ s1_p C M w inl y_length x_formOf fr fl fh vm vl vh k m x t j) → o ≤ 200 → (∀ ypost : Int32 → SY → Prop, ypost r (nI C, nI M, y_rules, y_place, y_named, y_made, y_namedMethods, y_live, y_built, nI e, nI s, nI o, r, x_isInterfaceClass, y_isAbstract, y_parent, x_ancestorsOf, x_interfacesOf, y_many, x_homeOf, y_name, y_length, y_op, y_first, y_second, x_ruleKind, x_ruleClasses, x_ruleNames, y_inlined, y_number, y_newName, y_family, vm, vl, vh, oi) → ∃ n, wY_run_162 ypost (nI w) n (nI C) (nI M) y_rules y_place y_named y_made y_namedMethods y_live y_built (nI 1) (nI 0) (nI 0) (-1) x_isInterfaceClass y_isAbstract y_parent x_ancestorsOf x_interfacesOf y_many x_homeOf y_name y_length y_op y_first y_second x_ruleKind x_ruleClasses x_ruleNames y_inlined y_number y_newName y_family (upd y_vMethod 0 (nI m)) (upd y_vLine 0 0) (upd y_vHeld 0 (-1)) x_outInts) → Q r (nI C, nI M, x_ruleCount, x_isBuilt, x_faultPlace, x_namedClasses, x_madeClasses, x_namedMethods, x_liveMethods, nI d, nI s, nI o, x_traceCount, x_isInterfaceClass, x_chainOf, x_interfacesOf, x_ancestorsOf, x_homeOf, x_formOf, x_nameOf, x_lengthOf, x_opOf, x_classOf, x_numberOf, x_sourceMethod, x_sourceLine, x_callLine, x_ruleKind, x_ruleClasses, x_ruleNames, x_newNumber, x_familyOf, x_sightOf, fr, fl, fh, oi, x_traceMethod, x_traceLine)) :
    wpX_doSteps Q (nI C, nI M, x_ruleCount, x_isBuilt, x_faultPlace, x_namedClasses, x_madeClasses, x_namedMethods, x_liveMethods, 1, 0, 0, x_traceCount, x_isInterfaceClass, x_chainOf, x_interfacesOf, x_ancestorsOf, x_homeOf, x_formOf, x_nameOf, x_lengthOf, x_opOf, x_classOf, x_numberOf, x_sourceMethod, x_sourceLine, x_callLine, x_ruleKind, x_ruleClasses, x_ruleNames, x_newNumber, x_familyOf, x_sightOf, upd x_frameRow 0 (nI (30 * w + m)), upd x_frameLine 0 0, upd x_frameHeld 0 (-1), x_outInts, x_traceMethod, x_traceLine) (nI w) := by
  have h30 := T.2.2.1.1
  have hl6 : ∀ m, m < M → y_length m = nI (hq_t (y_length m)) ∧ hq_t (y_length m) ≤ 6 := fun m hm => ⟨(tp_len T hm).2.1, (tp_len T hm).2.2⟩
  unfold wpX_doSteps
  dsimp only
  refine ⟨201, ?_⟩
  refine xs_l (GB := fun ypost => ∃ n, wY_run_162 ypost (nI w) n (nI C) (nI M) y_rules y_place y_named y_made y_namedMethods y_live y_built (nI 1) (nI 0) (nI 0) (-1) x_isInterfaceClass y_isAbstract y_parent x_ancestorsOf x_interfacesOf y_many x_homeOf y_name y_length y_op y_first y_second x_ruleKind x_ruleClasses x_ruleNames y_inlined y_number y_newName y_family (upd y_vMethod 0 (nI m)) (upd y_vLine 0 0) (upd y_vHeld 0 (-1)) x_outInts) T hw sm HY hl6 K 200 0 201 0 1 1 (upd x_frameRow 0 (nI (30 * w + m))) (upd x_frameLine 0 0) (upd x_frameHeld 0 (-1)) (upd y_vMethod 0 (nI m)) (upd y_vLine 0 0) (upd y_vHeld 0 (-1)) x_outInts (by omega) (by omega) (by omega) (Or.inl ⟨rfl, by omega, fun k hk => by omega, fun k hk => ?_⟩) (fun yp h => h)
  have : k = 0 := by omega
  subst this
  exact ⟨m, 0, ⟨mM, mF, pk_us, pk_us, pk_us, pk_us, by rw [pk_us, pk_us], Or.inl pk_us⟩, by omega⟩
theorem ft_i (T : tp_p C M R x_isInterfaceClass x_ancestorsOf x_interfacesOf x_chainOf y_parent y_many x_homeOf x_ruleKind x_ruleClasses x_ruleNames x_formOf x_nameOf x_lengthOf y_isAbstract y_name y_length x_opOf x_classOf x_numberOf x_sourceMethod x_sourceLine x_callLine y_op y_first y_second) {n : Int32} {h m : Nat} (hC : h < C) (ef : ft_v M w x_ancestorsOf x_chainOf x_homeOf x_formOf x_nameOf n h = some m) : m < M ∧ x_formOf (30 * w + m) = 2 := by
  unfold ft_v at ef
  cases e : fd_v M x_ancestorsOf x_chainOf x_homeOf (fun m => decide (¬ x_formOf (30 * w + m) = 0) && decide (x_nameOf (30 * w + m) = n)) h with
  | none => rw [e] at ef; exact absurd ef (by simp)
  | some g =>
    rw [e] at ef
    have ef : (if x_formOf (30 * w + g) = 2 then some g else none) = some m := ef
    by_cases q : x_formOf (30 * w + g) = 2
    · rw [if_pos q] at ef
      have : g = m := by simpa using ef
      subst this
      exact ⟨(fd_s T.1 hC e).1, q⟩
    · rw [if_neg q] at ef; exact absurd ef (by simp)
theorem x52_v (T : tp_p C M R x_isInterfaceClass x_ancestorsOf x_interfacesOf x_chainOf y_parent y_many x_homeOf x_ruleKind x_ruleClasses x_ruleNames x_formOf x_nameOf x_lengthOf y_isAbstract y_name y_length x_opOf x_classOf x_numberOf x_sourceMethod x_sourceLine x_callLine y_op y_first y_second) (hw : w < 2) (hM : x_methodCount = nI M) {post : Int32 → Prop} {n : Int32} {h : Nat} (hC : h < C) (hp : post (oI (ft_v M w x_ancestorsOf x_chainOf x_homeOf x_formOf x_nameOf n h))) : wX_startMethod_52 post (nI w) n (nI h) x_classCount x_methodCount x_ruleCount x_isBuilt x_faultPlace x_namedClasses x_madeClasses x_namedMethods x_liveMethods x_depth x_stepCount x_outCount x_traceCount x_isInterfaceClass x_chainOf x_interfacesOf x_ancestorsOf x_homeOf x_formOf x_nameOf x_lengthOf x_opOf x_classOf x_numberOf x_sourceMethod x_sourceLine x_callLine x_ruleKind x_ruleClasses x_ruleNames x_newNumber x_familyOf x_sightOf x_frameRow x_frameLine x_frameHeld x_outInts x_traceMethod x_traceLine := by
  have h30 := T.2.2.1.1
  have h10 := T.1.1
  unfold wX_startMethod_52
  refine br_f (oI_n (by omega)) (xf_v (w := w) T.1.1 T.2.2.1 hw hC (fun i => (T.1.2 h hC).2.2.2.1 i) (fun m => decide (¬ x_formOf (30 * w + m) = 0) && decide (x_nameOf (30 * w + m) = n)) (fun m hm => by rw [bb_a, decide_eq_true_eq, decide_eq_true_eq]) hM ?_)
  unfold ft_v at hp
  cases e : fd_v M x_ancestorsOf x_chainOf x_homeOf (fun m => decide (¬ x_formOf (30 * w + m) = 0) && decide (x_nameOf (30 * w + m) = n)) h with
  | none => rw [e] at hp; exact br_t rfl hp
  | some g =>
    rw [e] at hp
    have hp : post (oI (if x_formOf (30 * w + g) = 2 then some g else none)) := hp
    have gM := (fd_s T.1 hC e).1
    rw [oI_s, nI_a30, nI_c (show 30 * w + g < 10000 by omega)]
    refine br_f (oI_n (by omega)) ⟨vp_in_nI (by omega) (by decide), br_c (fun z => ?_) (fun z => ?_)⟩
    · rw [if_pos z] at hp; exact hp
    · rw [if_neg z] at hp; exact hp
theorem x52_n {post : Int32 → Prop} {x1 n : Int32} (hp : post (-1)) : wX_startMethod_52 post x1 n (-1) x_classCount x_methodCount x_ruleCount x_isBuilt x_faultPlace x_namedClasses x_madeClasses x_namedMethods x_liveMethods x_depth x_stepCount x_outCount x_traceCount x_isInterfaceClass x_chainOf x_interfacesOf x_ancestorsOf x_homeOf x_formOf x_nameOf x_lengthOf x_opOf x_classOf x_numberOf x_sourceMethod x_sourceLine x_callLine x_ruleKind x_ruleClasses x_ruleNames x_newNumber x_familyOf x_sightOf x_frameRow x_frameLine x_frameHeld x_outInts x_traceMethod x_traceLine := by
  unfold wX_startMethod_52
  exact br_t rfl hp
theorem y118_n {Q : Int32 → SY → Prop} {x1 : Int32} (hp : Q (-1) (y_classes, y_methods, y_rules, y_place, y_named, y_made, y_namedMethods, y_live, y_built, y_depth, y_steps, y_outs, y_ending, y_isInterface, y_isAbstract, y_parent, y_ancestors, y_own, y_many, y_home, y_name, y_length, y_op, y_first, y_second, y_ruleKind, y_ruleClasses, y_ruleNames, y_inlined, y_number, y_newName, y_family, y_vMethod, y_vLine, y_vHeld, y_put)) : wY_run_97 Q x1 y_classes y_methods y_rules y_place y_named y_made y_namedMethods y_live y_built y_depth y_steps y_outs y_ending y_isInterface y_isAbstract y_parent y_ancestors y_own y_many y_home y_name y_length y_op y_first y_second y_ruleKind y_ruleClasses y_ruleNames y_inlined y_number y_newName y_family y_vMethod y_vLine y_vHeld y_put := by
  unfold wY_run_97 wY_run_118
  exact yn_b (n := 2) (by decide) (fun _ _ _ => br_f (by decide) hp) (fun _ => hp)
theorem y118_v {ypost : Int32 → SY → Prop} (hw : w < 2) {f : Option Nat} (hf : ∀ g, f = some g → g < 30) (k0 : f = none → ypost (-1) (nI C, nI M, y_rules, y_place, y_named, y_made, y_namedMethods, y_live, y_built, y_depth, y_steps, y_outs, y_ending, x_isInterfaceClass, y_isAbstract, y_parent, x_ancestorsOf, x_interfacesOf, y_many, x_homeOf, y_name, y_length, y_op, y_first, y_second, x_ruleKind, x_ruleClasses, x_ruleNames, y_inlined, y_number, y_newName, y_family, y_vMethod, y_vLine, y_vHeld, x_outInts)) (k1 : ∀ m, f = some m → ∃ n, wY_run_162 ypost (nI w) n (nI C) (nI M) y_rules y_place y_named y_made y_namedMethods y_live y_built (nI 1) (nI 0) (nI 0) (-1) x_isInterfaceClass y_isAbstract y_parent x_ancestorsOf x_interfacesOf y_many x_homeOf y_name y_length y_op y_first y_second x_ruleKind x_ruleClasses x_ruleNames y_inlined y_number y_newName y_family (upd y_vMethod 0 (nI m)) (upd y_vLine 0 0) (upd y_vHeld 0 (-1)) x_outInts) : wY_run_118 ypost (nI w) (oI f) (nI C) (nI M) y_rules y_place y_named y_made y_namedMethods y_live y_built y_depth y_steps y_outs y_ending x_isInterfaceClass y_isAbstract y_parent x_ancestorsOf x_interfacesOf y_many x_homeOf y_name y_length y_op y_first y_second x_ruleKind x_ruleClasses x_ruleNames y_inlined y_number y_newName y_family y_vMethod y_vLine y_vHeld x_outInts := by
  unfold wY_run_118
  refine yn_b (n := 2) (by decide) (fun _ _ _ => ?_) (fun z => absurd z (fun y => y.elim (nI_pos (by omega)) (nI_ge (b := 2) hw (by decide))))
  cases f with
  | none => exact br_f (by decide) (k0 rfl)
  | some g =>
    have g30 := hf g rfl
    refine br_t (nI_pos' (by omega)) ?_
    unfold wpY_begin
    dsimp only
    refine br_f (by decide) ⟨vp_in_nI (n := 0) (by decide) (by decide), nm_e ⟨vp_in_nI (n := 0) (by decide) (by decide), nm_e ⟨vp_in_nI (n := 0) (by decide) (by decide), nm_e (nm_e ?_)⟩⟩⟩
    exact k1 g rfl
end
theorem i_vc_run {k : Nat} {u : SX} {v : SY} (I : i_Rel k u v) (hk : k + 5 ≤ 2560) (v1 : Int32) (v2 : Int32) (v3 : Int32) : wpX_run (fun r u' => wpY_run (fun r' v' => r' = r ∧ i_Rel (k + 5) u' v') v v1 v2 v3) u v1 v2 v3 := by
  obtain ⟨x_classCount, x_methodCount, x_ruleCount, x_isBuilt, x_faultPlace, x_namedClasses, x_madeClasses, x_namedMethods, x_liveMethods, x_depth, x_stepCount, x_outCount, x_traceCount, x_isInterfaceClass, x_chainOf, x_interfacesOf, x_ancestorsOf, x_homeOf, x_formOf, x_nameOf, x_lengthOf, x_opOf, x_classOf, x_numberOf, x_sourceMethod, x_sourceLine, x_callLine, x_ruleKind, x_ruleClasses, x_ruleNames, x_newNumber, x_familyOf, x_sightOf, x_frameRow, x_frameLine, x_frameHeld, x_outInts, x_traceMethod, x_traceLine⟩ := u; obtain ⟨y_classes, y_methods, y_rules, y_place, y_named, y_made, y_namedMethods, y_live, y_built, y_depth, y_steps, y_outs, y_ending, y_isInterface, y_isAbstract, y_parent, y_ancestors, y_own, y_many, y_home, y_name, y_length, y_op, y_first, y_second, y_ruleKind, y_ruleClasses, y_ruleNames, y_inlined, y_number, y_newName, y_family, y_vMethod, y_vLine, y_vHeld, y_put⟩ := v; have II := I; obtain ⟨C, M, R, t, o, rfl, rfl, rfl, rfl, rfl, rfl, rfl, rfl, rfl, rfl, rfl, rfl, rfl, rfl, rfl, rfl, rfl, rfl, rfl, rfl, rfl, ho, ht, hp, T, hb⟩ := (I : rl_p x_classCount x_methodCount x_ruleCount x_isBuilt x_faultPlace x_namedClasses x_madeClasses x_namedMethods x_liveMethods x_depth x_stepCount x_outCount x_traceCount x_isInterfaceClass x_chainOf x_interfacesOf x_ancestorsOf x_homeOf x_formOf x_nameOf x_lengthOf x_opOf x_classOf x_numberOf x_sourceMethod x_sourceLine x_callLine x_ruleKind x_ruleClasses x_ruleNames x_newNumber x_familyOf x_sightOf x_frameRow x_frameLine x_frameHeld x_outInts x_traceMethod x_traceLine y_classes y_methods y_rules y_place y_named y_made y_namedMethods y_live y_built y_depth y_steps y_outs y_ending y_isInterface y_isAbstract y_parent y_ancestors y_own y_many y_home y_name y_length y_op y_first y_second y_ruleKind y_ruleClasses y_ruleNames y_inlined y_number y_newName y_family y_vMethod y_vLine y_vHeld y_put)
  have h30 := T.2.2.1.1
  have h10 := T.1.1
  unfold wpX_run
  dsimp only
  by_cases z0 : v1 = 0
  · subst z0
    unfold wpX_startMethod
    dsimp only
    refine br_t rfl (xp_v T rfl rfl ?_)
    cases NF : ff_v C M x_isInterfaceClass x_ancestorsOf x_chainOf x_homeOf y_isAbstract y_name y_length y_op y_first y_second with
    | some q =>
      obtain ⟨qM, qb, _⟩ := sc_fe NF
      have nz : ¬ ff_r (some q) = -1 := oI_n (by omega)
      refine br_f nz ?_
      unfold wX_startMethod_33
      refine br_f (by decide) (x52_n (br_t rfl ?_))
      unfold wpY_run
      dsimp only
      refine br_t rfl (yx_v T rfl rfl (fun n => absurd (NF.symm.trans n) (by simp)) (fun q' NF' => ?_))
      have : q = q' := by simpa using NF.symm.trans NF'
      subst this
      have nz2 : ¬ fl_v C x_isInterfaceClass y_isAbstract (fo_v M x_ancestorsOf x_chainOf x_homeOf y_name) (y_op q) (y_first q) (y_second q) = 0 := by
        obtain ⟨m, i, i6, rfl⟩ : ∃ m i, i < 6 ∧ q = 6 * m + i := ⟨q / 6, q % 6, by omega, by omega⟩
        exact ((fb_i i6).mp qb).2
      dsimp only
      unfold wY_run_29
      refine br_t rfl (yn_b (by omega) (fun _ _ _ => ?_) (fun _ => ?_))
      · unfold wY_run_79
        exact br_f nz2 (y118_n ⟨rfl, II⟩)
      · unfold wY_run_79
        exact br_f nz2 (y118_n ⟨rfl, II⟩)
    | none =>
      refine br_t rfl ?_
      have yr : ∀ {Q : Int32 → SY → Prop}, wY_run_29 Q 0 v2 v3 x_faultPlace 0 (nI C) (nI M) (nI R) x_faultPlace y_named y_made y_namedMethods y_live x_isBuilt (nI t) x_stepCount (nI o) y_ending x_isInterfaceClass y_isAbstract y_parent x_ancestorsOf x_interfacesOf y_many x_homeOf y_name y_length y_op y_first y_second x_ruleKind x_ruleClasses x_ruleNames y_inlined y_number y_newName y_family y_vMethod y_vLine y_vHeld x_outInts → wpY_run Q (nI C, nI M, nI R, x_faultPlace, y_named, y_made, y_namedMethods, y_live, x_isBuilt, nI t, x_stepCount, nI o, y_ending, x_isInterfaceClass, y_isAbstract, y_parent, x_ancestorsOf, x_interfacesOf, y_many, x_homeOf, y_name, y_length, y_op, y_first, y_second, x_ruleKind, x_ruleClasses, x_ruleNames, y_inlined, y_number, y_newName, y_family, y_vMethod, y_vLine, y_vHeld, x_outInts) 0 v2 v3 := fun h => by
        unfold wpY_run
        dsimp only
        exact br_t rfl (yx_v T rfl rfl (fun _ => h) (fun q' NF' => absurd (NF.symm.trans NF') (by simp)))
      have bad : (v2 < 0 ∨ nI C ≤ v2) → wpY_run (fun r' v' => r' = (-1) ∧ i_Rel (k + 5) (nI C, nI M, nI R, x_isBuilt, x_faultPlace, x_namedClasses, x_madeClasses, x_namedMethods, x_liveMethods, x_depth, x_stepCount, nI o, nI t, x_isInterfaceClass, x_chainOf, x_interfacesOf, x_ancestorsOf, x_homeOf, x_formOf, x_nameOf, x_lengthOf, x_opOf, x_classOf, x_numberOf, x_sourceMethod, x_sourceLine, x_callLine, x_ruleKind, x_ruleClasses, x_ruleNames, x_newNumber, x_familyOf, x_sightOf, x_frameRow, x_frameLine, x_frameHeld, x_outInts, x_traceMethod, x_traceLine) v') (nI C, nI M, nI R, x_faultPlace, y_named, y_made, y_namedMethods, y_live, x_isBuilt, nI t, x_stepCount, nI o, y_ending, x_isInterfaceClass, y_isAbstract, y_parent, x_ancestorsOf, x_interfacesOf, y_many, x_homeOf, y_name, y_length, y_op, y_first, y_second, x_ruleKind, x_ruleClasses, x_ruleNames, y_inlined, y_number, y_newName, y_family, y_vMethod, y_vLine, y_vHeld, x_outInts) 0 v2 v3 := fun z => yr (by
        unfold wY_run_29
        refine br_t rfl (yn_b (by omega) (fun j hj e => ?_) (fun _ => ?_))
        · rw [e] at z; exact absurd z (fun y => y.elim (nI_pos (by omega)) (nI_ge hj (by omega)))
        · unfold wY_run_79
          exact br_t rfl (br_f (by decide) (y118_n ⟨rfl, II⟩)))
      unfold wpX_isClass
      dsimp only
      rcases pk_ix v2 (n := C) (by omega) with z | z | ⟨h, hC, rfl⟩
      · refine br_t z (br_0 ?_)
        unfold wX_startMethod_28
        exact x52_n (br_t rfl (bad (Or.inl z)))
      · refine br_f (ix_0 (by omega) z) (br_t z (br_0 ?_))
        unfold wX_startMethod_28
        exact x52_n (br_t rfl (bad (Or.inr z)))
      · refine br_f (nI_pos (by omega)) (br_f (nI_ge hC (by omega)) (br_1 ?_))
        unfold wX_startMethod_28
        have yf0 : ∀ {Q : Int32 → SY → Prop}, wY_run_118 Q (nI 0) (oI (ft_v M 0 x_ancestorsOf x_chainOf x_homeOf x_formOf x_nameOf v3 h)) (nI C) (nI M) (nI R) x_faultPlace y_named y_made y_namedMethods y_live x_isBuilt (nI t) x_stepCount (nI o) y_ending x_isInterfaceClass y_isAbstract y_parent x_ancestorsOf x_interfacesOf y_many x_homeOf y_name y_length y_op y_first y_second x_ruleKind x_ruleClasses x_ruleNames y_inlined y_number y_newName y_family y_vMethod y_vLine y_vHeld x_outInts → wpY_run Q (nI C, nI M, nI R, x_faultPlace, y_named, y_made, y_namedMethods, y_live, x_isBuilt, nI t, x_stepCount, nI o, y_ending, x_isInterfaceClass, y_isAbstract, y_parent, x_ancestorsOf, x_interfacesOf, y_many, x_homeOf, y_name, y_length, y_op, y_first, y_second, x_ruleKind, x_ruleClasses, x_ruleNames, y_inlined, y_number, y_newName, y_family, y_vMethod, y_vLine, y_vHeld, x_outInts) 0 (nI h) v3 := fun hh => yr (by
          unfold wY_run_29
          refine br_t rfl (yn_b (by omega) (fun _ _ _ => ?_) (fun z => absurd z (fun y => y.elim (nI_pos (by omega)) (nI_ge hC (by omega)))))
          unfold wY_run_79
          refine br_t rfl (br_t (nI_pos' (by omega)) (br_f (by decide) ?_))
          unfold wY_run_112
          exact yfd_0 T hC hh)
        refine x52_v (w := 0) T (by decide) rfl hC ?_
        cases ef : ft_v M 0 x_ancestorsOf x_chainOf x_homeOf x_formOf x_nameOf v3 h with
        | none =>
          refine br_t rfl (yf0 ?_)
          rw [ef]
          exact y118_v (w := 0) (by decide) (fun g e => absurd e (by simp)) (fun _ => ⟨rfl, II⟩) (fun m e => absurd e (by simp))
        | some m =>
          have mm := ft_i (w := 0) T hC ef
          have hl6 : ∀ m, m < M → y_length m = nI (hq_t (y_length m)) ∧ hq_t (y_length m) ≤ 6 := fun m hm => ⟨(tp_len T hm).2.1, (tp_len T hm).2.2⟩
          have sm := sm_0 (y_inlined := y_inlined) T NF
          refine br_f (oI_n (by have := mm.1; omega)) ?_
          have e30 : (0 : Int32) * 30 + oI (some m) = nI (30 * 0 + m) := nI_a30 0 m
          rw [e30]
          refine nm_e (nm_e (nm_e ?_))
          refine rn_b (w := 0) (y_rules := nI R) (y_place := x_faultPlace) (y_named := y_named) (y_made := y_made) (y_namedMethods := y_namedMethods) (y_live := y_live) (y_built := x_isBuilt) (y_inlined := y_inlined) (y_number := y_number) (y_newName := y_newName) (y_family := y_family) (y_vMethod := y_vMethod) (y_vLine := y_vLine) (y_vHeld := y_vHeld) T (by decide) sm (hy_0 T rfl rfl) mm.1 mm.2 (fun r s o' d e fr fl fh vm vl vh oi tq ho' hy => ?_)
          dsimp only
          refine xt_v (w := 0) (by decide) h30 hl6 sm tq (fun tm tl e8 htr => ?_)
          dsimp only
          refine yf0 ?_
          rw [ef]
          refine y118_v (w := 0) (by decide) (fun g e => ?_) (fun e => absurd e (by simp)) (fun m' e => ?_)
          · have : m = g := by simpa using e
            have := mm.1
            omega
          · have : m = m' := by simpa using e
            subst this
            exact hy _ ⟨rfl, rl_i (k + 5) ho' htr hp T hb⟩
  · by_cases z1 : v1 = 1
    · subst z1
      unfold wpX_startMethod
      dsimp only
      refine br_f (by decide) ?_
      unfold wX_startMethod_33
      refine br_t rfl (br_c (fun b => x52_n (br_t rfl ?_)) (fun b => ?_))
      · unfold wpY_run
        dsimp only
        refine br_f (by decide) (br_t b ?_)
        unfold wY_run_29
        refine br_f (by decide) (br_t rfl (br_t b ?_))
        unfold wY_run_78 wY_run_79
        exact br_f (by decide) (y118_n ⟨rfl, II⟩)
      · obtain ⟨⟨m1, m2, m3, m4⟩, b1, d1, kept, inl, NF, hI, hin, ml, xb, yn, yf, yw⟩ := hb b
        have yr : ∀ {Q : Int32 → SY → Prop}, ((v2 < 0 → wY_run_78 Q 1 v3 x_faultPlace 0 (nI C) (nI M) (nI R) x_faultPlace y_named y_made y_namedMethods y_live x_isBuilt (nI t) x_stepCount (nI o) y_ending x_isInterfaceClass y_isAbstract y_parent x_ancestorsOf x_interfacesOf y_many x_homeOf y_name y_length y_op y_first y_second x_ruleKind x_ruleClasses x_ruleNames y_inlined y_number y_newName y_family y_vMethod y_vLine y_vHeld x_outInts) ∧ (¬ v2 < 0 → wpY_classOf (fun r => wY_run_79 Q 1 v3 x_faultPlace 0 r (nI C) (nI M) (nI R) x_faultPlace y_named y_made y_namedMethods y_live x_isBuilt (nI t) x_stepCount (nI o) y_ending x_isInterfaceClass y_isAbstract y_parent x_ancestorsOf x_interfacesOf y_many x_homeOf y_name y_length y_op y_first y_second x_ruleKind x_ruleClasses x_ruleNames y_inlined y_number y_newName y_family y_vMethod y_vLine y_vHeld x_outInts) (nI C, nI M, nI R, x_faultPlace, y_named, y_made, y_namedMethods, y_live, x_isBuilt, nI t, x_stepCount, nI o, y_ending, x_isInterfaceClass, y_isAbstract, y_parent, x_ancestorsOf, x_interfacesOf, y_many, x_homeOf, y_name, y_length, y_op, y_first, y_second, x_ruleKind, x_ruleClasses, x_ruleNames, y_inlined, y_number, y_newName, y_family, y_vMethod, y_vLine, y_vHeld, x_outInts) v2)) → wpY_run Q (nI C, nI M, nI R, x_faultPlace, y_named, y_made, y_namedMethods, y_live, x_isBuilt, nI t, x_stepCount, nI o, y_ending, x_isInterfaceClass, y_isAbstract, y_parent, x_ancestorsOf, x_interfacesOf, y_many, x_homeOf, y_name, y_length, y_op, y_first, y_second, x_ruleKind, x_ruleClasses, x_ruleNames, y_inlined, y_number, y_newName, y_family, y_vMethod, y_vLine, y_vHeld, x_outInts) 1 v2 v3 := fun h => by
          unfold wpY_run
          dsimp only
          refine br_f (by decide) (br_f b ?_)
          unfold wY_run_29
          exact br_f (by decide) (br_t rfl (br_f b h))
        refine xcn_v h10 rfl (fun z => x52_n (br_t rfl (yr ?_))) (fun z => ?_)
        · refine br_t z ?_
          unfold wY_run_78 wY_run_79
          exact br_t rfl (br_f (by decide) (y118_n ⟨rfl, II⟩))
        · have ycl : ∀ {Q : Int32 → SY → Prop}, wY_run_79 Q 1 v3 x_faultPlace 0 (oI (sc_f (fun c => decide (x_newNumber c = v2)) C)) (nI C) (nI M) (nI R) x_faultPlace y_named y_made y_namedMethods y_live x_isBuilt (nI t) x_stepCount (nI o) y_ending x_isInterfaceClass y_isAbstract y_parent x_ancestorsOf x_interfacesOf y_many x_homeOf y_name y_length y_op y_first y_second x_ruleKind x_ruleClasses x_ruleNames y_inlined y_number y_newName y_family y_vMethod y_vLine y_vHeld x_outInts → wpY_run Q (nI C, nI M, nI R, x_faultPlace, y_named, y_made, y_namedMethods, y_live, x_isBuilt, nI t, x_stepCount, nI o, y_ending, x_isInterfaceClass, y_isAbstract, y_parent, x_ancestorsOf, x_interfacesOf, y_many, x_homeOf, y_name, y_length, y_op, y_first, y_second, x_ruleKind, x_ruleClasses, x_ruleNames, y_inlined, y_number, y_newName, y_family, y_vMethod, y_vLine, y_vHeld, x_outInts) 1 v2 v3 := fun h => by
            refine yr (br_f z (ycn_v h10 rfl ?_))
            have e : sc_f (fun c => bt y_named c && decide (y_number c = v2)) C = sc_f (fun c => decide (x_newNumber c = v2)) C := sc_fc (fun c hc => by
              show (bt y_named c && decide (y_number c = v2)) = decide (x_newNumber c = v2)
              rw [xb.2.2.2.2.1 c hc, yn c hc, ← m1]
              cases hn : bt x_namedClasses c
              · have e1 : nu_v kept x_namedClasses c = -1 := by
                  unfold nu_v
                  rw [if_neg (fun q => by rw [((xb.2.2.2.2.2 c).mp q).1] at hn; exact absurd hn (by decide)), if_neg (by rw [hn]; decide)]
                rw [e1, Bool.false_and, decide_eq_false (fun q => z (by rw [← q]; decide))]
              · rw [Bool.true_and])
            rw [e]
            exact h
          cases ec : sc_f (fun c => decide (x_newNumber c = v2)) C with
          | none =>
            refine x52_n (br_t rfl (ycl ?_))
            rw [ec]
            unfold wY_run_79
            exact br_t rfl (br_f (by decide) (y118_n ⟨rfl, II⟩))
          | some c =>
            have cC := (sc_fe ec).1
            have yf0 : ∀ {Q : Int32 → SY → Prop}, wY_run_118 Q (nI 1) (oI (ft_v M 1 x_ancestorsOf x_chainOf x_homeOf x_formOf x_nameOf v3 c)) (nI C) (nI M) (nI R) x_faultPlace y_named y_made y_namedMethods y_live x_isBuilt (nI t) x_stepCount (nI o) y_ending x_isInterfaceClass y_isAbstract y_parent x_ancestorsOf x_interfacesOf y_many x_homeOf y_name y_length y_op y_first y_second x_ruleKind x_ruleClasses x_ruleNames y_inlined y_number y_newName y_family y_vMethod y_vLine y_vHeld x_outInts → wpY_run Q (nI C, nI M, nI R, x_faultPlace, y_named, y_made, y_namedMethods, y_live, x_isBuilt, nI t, x_stepCount, nI o, y_ending, x_isInterfaceClass, y_isAbstract, y_parent, x_ancestorsOf, x_interfacesOf, y_many, x_homeOf, y_name, y_length, y_op, y_first, y_second, x_ruleKind, x_ruleClasses, x_ruleNames, y_inlined, y_number, y_newName, y_family, y_vMethod, y_vLine, y_vHeld, x_outInts) 1 v2 v3 := fun hh => ycl (by
              rw [ec, oI_s]
              unfold wY_run_79
              refine br_t rfl (br_t (nI_pos' (by omega)) (br_t rfl ?_))
              unfold wY_run_112
              subst m1 m2 m3 m4
              exact yfd_1 T xb yf yw ml cC hh)
            refine x52_v (w := 1) T (by decide) rfl cC ?_
            cases ef : ft_v M 1 x_ancestorsOf x_chainOf x_homeOf x_formOf x_nameOf v3 c with
            | none =>
              refine br_t rfl (yf0 ?_)
              rw [ef]
              exact y118_v (w := 1) (by decide) (fun g e => absurd e (by simp)) (fun _ => ⟨rfl, II⟩) (fun m e => absurd e (by simp))
            | some m =>
              have mm := ft_i (w := 1) T cC ef
              have hl6 : ∀ m, m < M → y_length m = nI (hq_t (y_length m)) ∧ hq_t (y_length m) ≤ 6 := fun m hm => ⟨(tp_len T hm).2.1, (tp_len T hm).2.2⟩
              have sm := sm_1 T NF hI hin xb
              refine br_f (oI_n (by have := mm.1; omega)) ?_
              have e30 : (1 : Int32) * 30 + oI (some m) = nI (30 * 1 + m) := nI_a30 1 m
              rw [e30]
              refine nm_e (nm_e (nm_e ?_))
              refine rn_b (w := 1) (y_rules := nI R) (y_place := x_faultPlace) (y_named := y_named) (y_made := y_made) (y_namedMethods := y_namedMethods) (y_live := y_live) (y_built := x_isBuilt) (y_inlined := y_inlined) (y_number := y_number) (y_newName := y_newName) (y_family := y_family) (y_vMethod := y_vMethod) (y_vLine := y_vLine) (y_vHeld := y_vHeld) T (by decide) sm (hy_1 T NF rfl hin xb yf yw ml m1 m2 m3 m4) mm.1 mm.2 (fun r s o' d e fr fl fh vm vl vh oi tq ho' hy => ?_)
              dsimp only
              refine xt_v (w := 1) (by decide) h30 hl6 sm tq (fun tm tl e8 htr => ?_)
              dsimp only
              refine yf0 ?_
              rw [ef]
              refine y118_v (w := 1) (by decide) (fun g e => ?_) (fun e => absurd e (by simp)) (fun m' e => ?_)
              · have : m = g := by simpa using e
                have := mm.1
                omega
              · have : m = m' := by simpa using e
                subst this
                exact hy _ ⟨rfl, rl_i (k + 5) ho' htr hp T hb⟩
    · unfold wpX_startMethod
      dsimp only
      refine br_f z0 ?_
      unfold wX_startMethod_33
      refine br_f z1 (x52_n (br_t rfl ?_))
      unfold wpY_run
      dsimp only
      refine br_f z0 (br_c (fun b => ?_) (fun b => ?_))
      · unfold wY_run_29
        refine br_f z0 (br_f z1 ?_)
        unfold wY_run_78 wY_run_79
        exact br_f (by decide) (y118_n ⟨rfl, II⟩)
      · unfold wY_run_29
        refine br_f z0 (br_f z1 ?_)
        unfold wY_run_78 wY_run_79
        exact br_t rfl (br_f (by decide) (y118_n ⟨rfl, II⟩))
end
section
theorem zz_end : True := trivial
end
