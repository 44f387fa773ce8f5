/-! ===== bits as sets ===== -/
theorem bq_one : ∀ i, i < 32 → bt 1 i = decide (i = 0) := by decide +kernel
theorem bq_1 {k : Nat} (hk : k < 32) (i : Nat) : bt ((1 : Int32) <<< (nI k &&& 31)) i = decide (i = k) := by
  rcases Nat.lt_or_ge i 32 with hi | hi
  · rw [b_shl k hk 1 hi]
    rcases Nat.lt_or_ge i k with h | h
    · have e1 : decide (k ≤ i) = false := decide_eq_false (by omega)
      have e2 : decide (i = k) = false := decide_eq_false (by omega)
      rw [e1, e2]; rfl
    · have e1 : decide (k ≤ i) = true := decide_eq_true h
      rw [bq_one (i - k) (by omega), e1, Bool.true_and]
      by_cases e : i = k
      · rw [decide_eq_true e, decide_eq_true (by omega : i - k = 0)]
      · rw [decide_eq_false e, decide_eq_false (by omega : ¬ i - k = 0)]
  · rw [b_big hi, decide_eq_false (by omega)]
theorem bq_sh (x : Int32) {k : Nat} (hk : k < 32) : (x >>> (nI k &&& 31)) &&& 1 = if bt x k = true then 1 else 0 := by
  apply b_ext
  intro i hi
  rw [b_and, b_sshr k hk x hi, bq_one i hi]
  by_cases e : i = 0
  · subst e
    rw [Nat.add_zero, if_pos hk]
    cases bt x k <;> decide +kernel
  · rw [decide_eq_false e, Bool.and_false]
    cases bt x k
    · exact (b_0 i).symm
    · exact ((bq_one i hi).trans (decide_eq_false e)).symm
theorem bq_0 (x : Int32) {k : Nat} (hk : k < 32) : (x >>> (nI k &&& 31)) &&& 1 = 0 ↔ ¬ bt x k = true := by
  rw [bq_sh x hk]
  by_cases h : bt x k = true
  · rw [if_pos h]; exact ⟨fun z => absurd z (by decide), fun z => absurd h z⟩
  · rw [if_neg h]; exact ⟨fun _ => h, fun _ => rfl⟩
theorem bq_t (x : Int32) {k : Nat} (hk : k < 32) : (x >>> (nI k &&& 31)) &&& 1 = 1 ↔ bt x k = true := by
  rw [bq_sh x hk]
  by_cases h : bt x k = true
  · rw [if_pos h]; exact ⟨fun _ => h, fun _ => rfl⟩
  · rw [if_neg h]; exact ⟨fun z => absurd z (by decide), fun z => absurd z h⟩
theorem bq_o1 (a : Int32) {k : Nat} (hk : k < 32) (i : Nat) : bt (a ||| ((1 : Int32) <<< (nI k &&& 31))) i = true ↔ bt a i = true ∨ i = k := by
  rw [b_or, bq_1 hk, Bool.or_eq_true, decide_eq_true_eq]
theorem bq_lt {a : Int32} {i : Nat} (h : bt a i = true) : i < 32 := by
  rcases Nat.lt_or_ge i 32 with g | g
  · exact g
  · rw [b_big g] at h; exact absurd h (by decide)
theorem bq_ze {a : Int32} : a = 0 ↔ ∀ i, ¬ bt a i = true := by
  constructor
  · intro h i z; subst h; rw [b_0] at z; exact absurd z (by decide)
  · intro h; apply b_ext; intro i _; rw [b_0]; exact Bool.eq_false_iff.mpr (h i)
def ss_le (a b : Int32) : Prop := ∀ i, bt a i = true → bt b i = true
theorem ss_rf (a : Int32) : ss_le a a := fun _ h => h
theorem ss_tr {a b c : Int32} (h : ss_le a b) (g : ss_le b c) : ss_le a c := fun i z => g i (h i z)
theorem ss_as {a b : Int32} (h : ss_le a b) (g : ss_le b a) : a = b := b_ext (fun i _ => Bool.eq_iff_iff.mpr ⟨h i, g i⟩)
theorem ss_ol (a b : Int32) : ss_le a (a ||| b) := fun i h => by rw [b_or, h]; rfl
theorem ss_or (a b : Int32) : ss_le b (a ||| b) := fun i h => by rw [b_or, h]; exact Bool.or_true _
theorem ss_ou {a b c : Int32} (h : ss_le a c) (g : ss_le b c) : ss_le (a ||| b) c := fun i z => by
  rw [b_or, Bool.or_eq_true] at z
  exact z.elim (h i) (g i)
theorem ss_z (a : Int32) : ss_le 0 a := fun i h => by rw [b_0] at h; exact absurd h (by decide)
theorem ss_o1 {a b : Int32} {k : Nat} (hk : k < 32) (h : ss_le a b) (g : bt b k = true) : ss_le (a ||| ((1 : Int32) <<< (nI k &&& 31))) b := fun i z => by
  rcases (bq_o1 a hk i).mp z with y | y
  · exact h i y
  · subst y; exact g
/-! ===== counting ===== -/
def pc_n (p : Nat → Bool) : Nat → Nat
  | 0 => 0
  | n + 1 => pc_n p n + (if p n = true then 1 else 0)
theorem pc_le (p : Nat → Bool) : ∀ n, pc_n p n ≤ n
  | 0 => Nat.le_refl 0
  | n + 1 => by
    have := pc_le p n
    show pc_n p n + (if p n = true then 1 else 0) ≤ n + 1
    split <;> omega
theorem pc_mo {p q : Nat → Bool} {n : Nat} (h : ∀ i, i < n → p i = true → q i = true) : pc_n p n ≤ pc_n q n := by
  induction n with
  | zero => exact Nat.le_refl 0
  | succ n ih =>
    have := ih (fun i hi => h i (by omega))
    have a := h n (by omega)
    show pc_n p n + (if p n = true then 1 else 0) ≤ pc_n q n + (if q n = true then 1 else 0)
    by_cases e : p n = true
    · rw [if_pos e, if_pos (a e)]; omega
    · rw [if_neg e]; split <;> omega
theorem pc_lt {p q : Nat → Bool} {n i : Nat} (h : ∀ i, i < n → p i = true → q i = true) (hi : i < n) (hq : q i = true) (hp : ¬ p i = true) : pc_n p n < pc_n q n := by
  induction n with
  | zero => omega
  | succ n ih =>
    have a := h n (by omega)
    have m := pc_mo (fun i hi => h i (by omega) : ∀ i, i < n → p i = true → q i = true)
    show pc_n p n + (if p n = true then 1 else 0) < pc_n q n + (if q n = true then 1 else 0)
    rcases Nat.lt_or_ge i n with g | g
    · have := ih (fun i hi => h i (by omega)) g
      by_cases e : p n = true
      · rw [if_pos e, if_pos (a e)]; omega
      · rw [if_neg e]; split <;> omega
    · have e : i = n := by omega
      subst e
      rw [if_neg hp, if_pos hq]; omega
theorem pc_full {p : Nat → Bool} {n : Nat} (h : n ≤ pc_n p n) : ∀ i, i < n → p i = true := by
  induction n with
  | zero => intro i hi; omega
  | succ n ih =>
    have l := pc_le p n
    have e : pc_n p (n + 1) = pc_n p n + (if p n = true then 1 else 0) := rfl
    rw [e] at h
    by_cases c : p n = true
    · rw [if_pos c] at h
      intro i hi
      rcases Nat.lt_or_ge i n with g | g
      · exact ih (by omega) i g
      · have : i = n := by omega
        subst this; exact c
    · rw [if_neg c] at h; omega
def pc_b (a : Int32) : Nat := pc_n (bt a) 32
theorem pc_b32 (a : Int32) : pc_b a ≤ 32 := pc_le _ 32
theorem pc_bm {a b : Int32} (h : ss_le a b) : pc_b a ≤ pc_b b := pc_mo (fun i _ => h i)
theorem pc_bl {a b : Int32} (h : ss_le a b) (e : ¬ a = b) : pc_b a < pc_b b := by
  by_cases c : ∃ i, bt b i = true ∧ ¬ bt a i = true
  · obtain ⟨i, h1, h2⟩ := c
    exact pc_lt (fun i _ => h i) (bq_lt h1) h1 h2
  · exact absurd (ss_as h (fun i z => Decidable.byContradiction (fun y => c ⟨i, z, y⟩))) e
/-! ===== pigeonholes ===== -/
theorem pg_h : ∀ (k : Nat) (f : Nat → Nat), ¬ (∀ n, n < k + 1 → ∃ g, g < k ∧ f g = n)
  | 0, f, h => by obtain ⟨g, hg, _⟩ := h 0 (by omega); omega
  | k + 1, f, h => by
    refine pg_h k (fun g => if f k < f g then f g - 1 else f g) (fun n hn => ?_)
    rcases Nat.lt_or_ge n (f k) with c | c
    · obtain ⟨g, hg, e⟩ := h n (by omega)
      have : g ≠ k := fun z => by subst z; omega
      refine ⟨g, by omega, ?_⟩
      show (if f k < f g then f g - 1 else f g) = n
      rw [if_neg (by omega)]; exact e
    · obtain ⟨g, hg, e⟩ := h (n + 1) (by omega)
      have : g ≠ k := fun z => by subst z; omega
      refine ⟨g, by omega, ?_⟩
      show (if f k < f g then f g - 1 else f g) = n
      rw [if_pos (by omega)]; omega
theorem pg_x (K : Nat) (f : Nat → Nat) (x : Nat) (hx : x < K) : ¬ (∀ n, n < K → ∃ g, g < K ∧ g ≠ x ∧ f g = n) := by
  intro h
  refine pg_h (K - 1) (fun g => f (if g < x then g else g + 1)) (fun n hn => ?_)
  obtain ⟨g, hg, gx, e⟩ := h n (by omega)
  rcases Nat.lt_or_ge g x with c | c
  · refine ⟨g, by omega, ?_⟩
    show f (if g < x then g else g + 1) = n
    rw [if_pos c]; exact e
  · refine ⟨g - 1, by omega, ?_⟩
    show f (if g - 1 < x then g - 1 else g - 1 + 1) = n
    rw [if_neg (by omega), show g - 1 + 1 = g from by omega]; exact e
/-! ===== the first and the last with a property; an Option as an int ===== -/
def oI : Option Nat → Int32
  | none => -1
  | some m => nI m
def sc_f (p : Nat → Bool) : Nat → Option Nat
  | 0 => none
  | n + 1 => match sc_f p n with
    | some m => some m
    | none => if p n = true then some n else none
def sc_l (p : Nat → Bool) : Nat → Option Nat
  | 0 => none
  | n + 1 => if p n = true then some n else sc_l p n
theorem sc_fs (p : Nat → Bool) (n : Nat) : sc_f p (n + 1) = match sc_f p n with
    | some m => some m
    | none => if p n = true then some n else none := rfl
theorem sc_ls (p : Nat → Bool) (n : Nat) : sc_l p (n + 1) = if p n = true then some n else sc_l p n := rfl
theorem sc_fn {p : Nat → Bool} : ∀ {n : Nat}, sc_f p n = none → ∀ j, j < n → ¬ p j = true
  | 0, _, j, hj => by omega
  | n + 1, h, j, hj => by
    rw [sc_fs] at h
    cases e : sc_f p n with
    | some m => rw [e] at h; exact absurd h (by simp)
    | none =>
      rw [e] at h
      by_cases c : p n = true
      · simp [c] at h
      · rcases Nat.lt_or_ge j n with g | g
        · exact sc_fn e j g
        · have : j = n := by omega
          subst this; exact c
theorem sc_fe {p : Nat → Bool} : ∀ {n m : Nat}, sc_f p n = some m → m < n ∧ p m = true ∧ ∀ j, j < m → ¬ p j = true
  | 0, m, h => by exact absurd h (by simp [sc_f])
  | n + 1, m, h => by
    rw [sc_fs] at h
    cases e : sc_f p n with
    | some k =>
      rw [e] at h
      have hk : k = m := by simpa using h
      subst hk
      obtain ⟨a, b, c⟩ := sc_fe e
      exact ⟨by omega, b, c⟩
    | none =>
      rw [e] at h
      by_cases c : p n = true
      · have hk : n = m := by simpa [c] using h
        subst hk
        exact ⟨by omega, c, fun j hj => sc_fn e j hj⟩
      · simp [c] at h
theorem sc_ln {p : Nat → Bool} : ∀ {n : Nat}, sc_l p n = none → ∀ j, j < n → ¬ p j = true
  | 0, _, j, hj => by omega
  | n + 1, h, j, hj => by
    rw [sc_ls] at h
    by_cases c : p n = true
    · simp [c] at h
    · rw [if_neg c] at h
      rcases Nat.lt_or_ge j n with g | g
      · exact sc_ln h j g
      · have : j = n := by omega
        subst this; exact c
theorem sc_le {p : Nat → Bool} : ∀ {n m : Nat}, sc_l p n = some m → m < n ∧ p m = true ∧ ∀ j, m < j → j < n → ¬ p j = true
  | 0, m, h => by exact absurd h (by simp [sc_l])
  | n + 1, m, h => by
    rw [sc_ls] at h
    by_cases c : p n = true
    · have hk : n = m := by simpa [c] using h
      subst hk
      exact ⟨by omega, c, fun j h1 h2 => by omega⟩
    · rw [if_neg c] at h
      obtain ⟨a, b, d⟩ := sc_le h
      refine ⟨by omega, b, fun j h1 h2 => ?_⟩
      rcases Nat.lt_or_ge j n with g | g
      · exact d j h1 g
      · have : j = n := by omega
        subst this; exact c
theorem sc_fI {p : Nat → Bool} {n m : Nat} (h1 : m < n) (h2 : p m = true) (h3 : ∀ j, j < m → ¬ p j = true) : sc_f p n = some m := by
  cases e : sc_f p n with
  | none => exact absurd h2 (sc_fn e m h1)
  | some k =>
    obtain ⟨a, b, c⟩ := sc_fe e
    rcases Nat.lt_trichotomy k m with g | g | g
    · exact absurd b (h3 k g)
    · rw [g]
    · exact absurd h2 (c m g)
theorem sc_lI {p : Nat → Bool} {n m : Nat} (h1 : m < n) (h2 : p m = true) (h3 : ∀ j, m < j → j < n → ¬ p j = true) : sc_l p n = some m := by
  cases e : sc_l p n with
  | none => exact absurd h2 (sc_ln e m h1)
  | some k =>
    obtain ⟨a, b, c⟩ := sc_le e
    rcases Nat.lt_trichotomy k m with g | g | g
    · exact absurd h2 (c m g h1)
    · rw [g]
    · exact absurd b (h3 k g a)
theorem sc_fN {p : Nat → Bool} {n : Nat} (h : ∀ j, j < n → ¬ p j = true) : sc_f p n = none := by
  cases e : sc_f p n with
  | none => rfl
  | some k => exact absurd (sc_fe e).2.1 (h k (sc_fe e).1)
theorem sc_lN {p : Nat → Bool} {n : Nat} (h : ∀ j, j < n → ¬ p j = true) : sc_l p n = none := by
  cases e : sc_l p n with
  | none => rfl
  | some k => exact absurd (sc_le e).2.1 (h k (sc_le e).1)
theorem sc_lc {p q : Nat → Bool} : ∀ {n : Nat}, (∀ j, j < n → p j = q j) → sc_l p n = sc_l q n
  | 0, _ => rfl
  | n + 1, h => by rw [sc_ls, sc_ls, h n (by omega), sc_lc (fun j hj => h j (by omega))]
theorem sc_fc {p q : Nat → Bool} : ∀ {n : Nat}, (∀ j, j < n → p j = q j) → sc_f p n = sc_f q n
  | 0, _ => rfl
  | n + 1, h => by rw [sc_fs, sc_fs, h n (by omega), sc_fc (fun j hj => h j (by omega))]
theorem oI_n {m : Nat} (h : m < 2 ^ 31) : ¬ nI m = -1 := by
  intro e
  have := congrArg Int32.toInt e
  rw [nI_toInt h, show (-1 : Int32).toInt = -1 from by decide] at this
  omega
theorem oI_neg {m : Nat} (h : m < 2 ^ 31) : ¬ nI m < 0 := nI_pos h
theorem oI_in {a b : Option Nat} (ha : ∀ m, a = some m → m < 2 ^ 31) (hb : ∀ m, b = some m → m < 2 ^ 31) : oI a = oI b ↔ a = b := by
  cases a with
  | none =>
    cases b with
    | none => exact ⟨fun _ => rfl, fun _ => rfl⟩
    | some k => exact ⟨fun z => absurd z.symm (oI_n (hb k rfl)), fun z => absurd z (by simp)⟩
  | some j =>
    cases b with
    | none => exact ⟨fun z => absurd z (oI_n (ha j rfl)), fun z => absurd z (by simp)⟩
    | some k => exact ⟨fun z => congrArg some ((nI_eq (ha j rfl) (hb k rfl)).mp z), fun z => by rw [z]⟩
