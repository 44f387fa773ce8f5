/-! ===== classes, what they find (pure) =====
C classes, M methods; anc, chn: sets as ints; par: the parent or -1; hm: the home; q: bears the name sought -/
def hq_t (x : Int32) : Nat := x.toNatClampNeg
theorem hq_e {n : Nat} (h : n < 2 ^ 31) : hq_t (nI n) = n := nI_clamp h
/-- the hierarchy of the classes below C -/
def hi_ok (C : Nat) (ifc anc chn par : Nat → Int32) : Prop :=
  C ≤ 10 ∧ ∀ c, c < C →
    bt (anc c) c = true ∧ (∀ i, bt (anc c) i = true → i ≤ c) ∧
    (∀ i j, bt (anc c) i = true → bt (anc i) j = true → bt (anc c) j = true) ∧
    (∀ i, bt (chn c) i = true → bt (anc c) i = true) ∧
    (∀ i, bt (anc c) i = true → ¬ bt (chn c) i = true → ¬ ifc i = 0) ∧
    ((par c = -1 ∧ ∀ i, bt (chn c) i = true ↔ i = c) ∨
      ∃ p, p < c ∧ par c = nI p ∧ ifc p = 0 ∧ (∀ i, bt (chn c) i = true ↔ i = c ∨ bt (chn p) i = true))
/-- the methods below M -/
def mh_ok (C M : Nat) (hom : Nat → Int32) : Prop :=
  M ≤ 30 ∧ (∀ m, m < M → ∃ c, c < C ∧ hom m = nI c) ∧ (∀ a b, a < b → b < M → hq_t (hom a) ≤ hq_t (hom b))
theorem mh_h {C M : Nat} {hom : Nat → Int32} (h : mh_ok C M hom) (hC : C ≤ 10) {m : Nat} (hm : m < M) : hom m = nI (hq_t (hom m)) ∧ hq_t (hom m) < C := by
  obtain ⟨c, hc, e⟩ := h.2.1 m hm
  rw [e, hq_e (by omega)]
  exact ⟨rfl, hc⟩
/-- what c finds among those with q: the last of the chain, else the first of the ancestors -/
def fd_v (M : Nat) (anc chn hom : Nat → Int32) (q : Nat → Bool) (c : Nat) : Option Nat :=
  match sc_l (fun m => q m && bt (chn c) (hq_t (hom m))) M with
  | some m => some m
  | none => sc_f (fun m => q m && bt (anc c) (hq_t (hom m))) M
/-- one of one home and name at the most -/
def un_ok (M : Nat) (hom : Nat → Int32) (q : Nat → Bool) : Prop :=
  ∀ a b, a < M → b < M → q a = true → q b = true → hq_t (hom a) = hq_t (hom b) → a = b
def dc_v (M : Nat) (hom : Nat → Int32) (q : Nat → Bool) (c : Nat) : Option Nat := sc_f (fun m => decide (hq_t (hom m) = c) && q m) M
theorem bb_a {a b : Bool} : (a && b) = true ↔ a = true ∧ b = true := Bool.and_eq_true_iff
theorem hi_cl {C : Nat} {ifc anc chn par : Nat → Int32} (h : hi_ok C ifc anc chn par) {c i : Nat} (hc : c < C) (hi : bt (chn c) i = true) : i ≤ c :=
  (h.2 c hc).2.1 i ((h.2 c hc).2.2.2.1 i hi)
/-- a chain's step: found at c itself -/
theorem ch_s {C M : Nat} {ifc anc chn par hom : Nat → Int32} {q : Nat → Bool} (h : hi_ok C ifc anc chn par) (g : mh_ok C M hom) (u : un_ok M hom q) {c m : Nat} (hc : c < C)
    (hm : dc_v M hom q c = some m) : sc_l (fun m => q m && bt (chn c) (hq_t (hom m))) M = some m := by
  obtain ⟨a, b, d⟩ := sc_fe hm
  rw [bb_a, decide_eq_true_eq] at b
  have self : bt (chn c) c = true := by
    rcases (h.2 c hc).2.2.2.2.2 with ⟨_, z⟩ | ⟨p, _, _, _, z⟩
    · exact (z c).mpr rfl
    · exact (z c).mpr (Or.inl rfl)
  refine sc_lI a ?_ ?_
  · rw [bb_a, b.1]; exact ⟨b.2, self⟩
  · intro j h1 h2 z
    rw [bb_a] at z
    have k1 := g.2.2 m j h1 h2
    have k2 := hi_cl h hc z.2
    have := u j m h2 a z.1 b.2 (by omega)
    omega
theorem ch_n {C M : Nat} {ifc anc chn par hom : Nat → Int32} {q : Nat → Bool} (h : hi_ok C ifc anc chn par) {c : Nat} (hc : c < C)
    (hm : dc_v M hom q c = none) : (par c = -1 ∧ sc_l (fun m => q m && bt (chn c) (hq_t (hom m))) M = none) ∨
      ∃ p, p < c ∧ par c = nI p ∧ sc_l (fun m => q m && bt (chn c) (hq_t (hom m))) M = sc_l (fun m => q m && bt (chn p) (hq_t (hom m))) M := by
  have n := sc_fn hm
  rcases (h.2 c hc).2.2.2.2.2 with ⟨e, z⟩ | ⟨p, hp, e, _, z⟩
  · refine Or.inl ⟨e, sc_lN (fun j hj y => ?_)⟩
    rw [bb_a] at y
    exact n j hj (bb_a.mpr ⟨decide_eq_true ((z _).mp y.2), y.1⟩)
  · refine Or.inr ⟨p, hp, e, sc_lc (fun j hj => ?_)⟩
    have nj := n j hj
    show (q j && bt (chn c) (hq_t (hom j))) = (q j && bt (chn p) (hq_t (hom j)))
    cases hq : q j
    · rfl
    · rw [Bool.true_and, Bool.true_and]
      refine Bool.eq_iff_iff.mpr ⟨fun y => ?_, fun y => (z _).mpr (Or.inr y)⟩
      rcases (z _).mp y with w | w
      · exact absurd (bb_a.mpr ⟨decide_eq_true w, hq⟩) nj
      · exact w
/-- the ancestors from the least on -/
theorem an_s {C M : Nat} {anc hom : Nat → Int32} {q : Nat → Bool} (g : mh_ok C M hom) {c d m : Nat}
    (b0 : ∀ e, e < d → bt (anc c) e = true → dc_v M hom q e = none) (hb : bt (anc c) d = true) (hm : dc_v M hom q d = some m) :
    sc_f (fun m => q m && bt (anc c) (hq_t (hom m))) M = some m := by
  obtain ⟨a, b, e⟩ := sc_fe hm
  rw [bb_a, decide_eq_true_eq] at b
  refine sc_fI a ?_ ?_
  · rw [bb_a, b.1]; exact ⟨b.2, hb⟩
  · intro j hj z
    rw [bb_a] at z
    have k1 := g.2.2 j m hj a
    rcases Nat.lt_or_ge (hq_t (hom j)) d with w | w
    · exact sc_fn (b0 _ w z.2) j (by omega) (bb_a.mpr ⟨decide_eq_true rfl, z.1⟩)
    · exact e j hj (bb_a.mpr ⟨decide_eq_true (by omega), z.1⟩)
theorem an_n {C M : Nat} {anc hom : Nat → Int32} {q : Nat → Bool} (g : mh_ok C M hom) (hC : C ≤ 10) {c : Nat}
    (b0 : ∀ e, e < C → bt (anc c) e = true → dc_v M hom q e = none) :
    sc_f (fun m => q m && bt (anc c) (hq_t (hom m))) M = none := by
  refine sc_fN (fun j hj z => ?_)
  rw [bb_a] at z
  exact sc_fn (b0 _ (mh_h g hC hj).2 z.2) j hj (bb_a.mpr ⟨decide_eq_true rfl, z.1⟩)
/-- found or not: whether there is one among the ancestors -/
theorem fd_s {C M : Nat} {ifc anc chn par hom : Nat → Int32} {q : Nat → Bool} (h : hi_ok C ifc anc chn par) {c m : Nat} (hc : c < C)
    (e : fd_v M anc chn hom q c = some m) : m < M ∧ q m = true ∧ bt (anc c) (hq_t (hom m)) = true := by
  unfold fd_v at e
  cases k : sc_l (fun m => q m && bt (chn c) (hq_t (hom m))) M with
  | some j =>
    rw [k] at e
    have : j = m := by simpa using e
    subst this
    obtain ⟨a, b, _⟩ := sc_le k
    rw [bb_a] at b
    exact ⟨a, b.1, (h.2 c hc).2.2.2.1 _ b.2⟩
  | none =>
    rw [k] at e
    obtain ⟨a, b, _⟩ := sc_fe e
    rw [bb_a] at b
    exact ⟨a, b⟩
theorem fd_i {M : Nat} {anc chn hom : Nat → Int32} {q : Nat → Bool} {c m : Nat} (hm : m < M) (hq : q m = true) (hb : bt (anc c) (hq_t (hom m)) = true) :
    ∃ k, fd_v M anc chn hom q c = some k := by
  unfold fd_v
  cases k : sc_l (fun m => q m && bt (chn c) (hq_t (hom m))) M with
  | some j => exact ⟨j, rfl⟩
  | none =>
    cases e : sc_f (fun m => q m && bt (anc c) (hq_t (hom m))) M with
    | some j => exact ⟨j, rfl⟩
    | none => exact absurd (bb_a.mpr ⟨hq, hb⟩) (sc_fn e m hm)
theorem fd_up {C M : Nat} {ifc anc chn par hom : Nat → Int32} {q : Nat → Bool} (h : hi_ok C ifc anc chn par) {c d m : Nat} (hc : c < C) (hd : d < C)
    (e : fd_v M anc chn hom q c = some m) (hb : bt (anc d) c = true) : ∃ k, fd_v M anc chn hom q d = some k := by
  obtain ⟨a, b, f⟩ := fd_s h hc e
  exact fd_i a b ((h.2 d hd).2.2.1 c _ hb f)
theorem fd_b {C M : Nat} {ifc anc chn par hom : Nat → Int32} {q : Nat → Bool} (h : hi_ok C ifc anc chn par) (g : mh_ok C M hom) {c : Nat} (hc : c < C) :
    ∀ m, fd_v M anc chn hom q c = some m → m < 2 ^ 31 := fun m e => by
  have := (fd_s h hc e).1
  have := g.1
  omega
/-- what isn't of the chain is abstract: so found of the chain, or not filled -/
theorem fd_ch {C M : Nat} {ifc anc chn par hom : Nat → Int32} {q : Nat → Bool} (h : hi_ok C ifc anc chn par) {c m : Nat} (hc : c < C)
    (e : fd_v M anc chn hom q c = some m) (hi : ifc (hq_t (hom m)) = 0) : sc_l (fun m => q m && bt (chn c) (hq_t (hom m))) M = some m := by
  unfold fd_v at e
  cases k : sc_l (fun m => q m && bt (chn c) (hq_t (hom m))) M with
  | some j => rw [k] at e; exact e
  | none =>
    rw [k] at e
    obtain ⟨a, b, _⟩ := sc_fe e
    rw [bb_a] at b
    have n : ¬ bt (chn c) (hq_t (hom m)) = true := fun z => sc_ln k m a (bb_a.mpr ⟨b.1, z⟩)
    exact absurd hi ((h.2 c hc).2.2.2.2.1 _ b.2 n)
