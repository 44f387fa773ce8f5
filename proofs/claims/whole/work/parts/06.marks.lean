/-! ===== marking (pure): the least closed sets. S 0: NAMED classes, S 1: MADE, S 2: NAMED methods, S 3: LIVE ===== -/
def mk_s (a b c d : Int32) (k i : Nat) : Prop :=
  match k with
  | 0 => bt a i = true
  | 1 => bt b i = true
  | 2 => bt c i = true
  | 3 => bt d i = true
  | _ => False
def cl_ok (C M R : Nat) (anc hom nam rk rc rn : Nat → Int32) (fil : Nat → Prop) (E : Nat → (Nat → Nat → Prop) → Prop) (S : Nat → Nat → Prop) : Prop :=
  (∀ r, r < R → rk r = 0 → (∀ c, c < C → bt (rc r) c = true → S 0 c) ∧
    ∀ m, m < M → bt (rc r) (hq_t (hom m)) = true → bt (rn r) (hq_t (nam m)) = true → S 2 m ∧ (fil m → S 3 m)) ∧
  (∀ m, m < M → S 2 m → S 0 (hq_t (hom m))) ∧
  (∀ c, c < C → S 0 c → ∀ i, bt (anc c) i = true → S 0 i) ∧
  (∀ m, m < M → S 3 m → E m S)
/-- what an instruction asks of closed sets: o c n as told, v whether it is INLINED; F c n: what is found -/
def ef_p (C : Nat) (anc : Nat → Int32) (fil : Nat → Prop) (F : Nat → Int32 → Option Nat) (o c n : Int32) (v : Prop) (S : Nat → Nat → Prop) : Prop :=
  (o = 1 → S 0 (hq_t c) ∧ S 1 (hq_t c)) ∧
  (o = 4 → S 0 (hq_t c)) ∧
  (o = 3 → ¬ v → S 0 (hq_t c) ∧ ∀ f, F (hq_t c) n = some f → S 2 f ∧ (fil f → S 3 f)) ∧
  (o = 2 → S 0 (hq_t c) ∧ (¬ v → (∀ f, F (hq_t c) n = some f → S 2 f) ∧
    ∀ d, d < C → S 1 d → bt (anc d) (hq_t c) = true → ∀ g, F d n = some g → S 2 g ∧ (fil g → S 3 g)))
def mk_le (a b c d : Int32) (S : Nat → Nat → Prop) : Prop := ∀ k i, mk_s a b c d k i → S k i
theorem mk_lI {a b c d : Int32} {S : Nat → Nat → Prop} (h0 : ∀ i, bt a i = true → S 0 i) (h1 : ∀ i, bt b i = true → S 1 i) (h2 : ∀ i, bt c i = true → S 2 i)
    (h3 : ∀ i, bt d i = true → S 3 i) : mk_le a b c d S := by
  intro k i z
  match k with
  | 0 => exact h0 i z
  | 1 => exact h1 i z
  | 2 => exact h2 i z
  | 3 => exact h3 i z
  | k + 4 => exact absurd z (fun y => y)
/-- the marks are a closed set, and in every closed set: two such are the same -/
theorem mk_un {C M R : Nat} {anc hom nam rk rc rn : Nat → Int32} {fil : Nat → Prop} {E E' : Nat → (Nat → Nat → Prop) → Prop} (he : ∀ m S, m < M → (E m S ↔ E' m S)) {a b c d a' b' c' d' : Int32}
    (h : cl_ok C M R anc hom nam rk rc rn fil E (mk_s a b c d)) (g : ∀ S, cl_ok C M R anc hom nam rk rc rn fil E S → mk_le a b c d S)
    (h' : cl_ok C M R anc hom nam rk rc rn fil E' (mk_s a' b' c' d')) (g' : ∀ S, cl_ok C M R anc hom nam rk rc rn fil E' S → mk_le a' b' c' d' S) :
    a' = a ∧ b' = b ∧ c' = c ∧ d' = d := by
  have x : mk_le a b c d (mk_s a' b' c' d') := g _ ⟨h'.1, h'.2.1, h'.2.2.1, fun m hm z => (he m _ hm).mpr (h'.2.2.2 m hm z)⟩
  have y : mk_le a' b' c' d' (mk_s a b c d) := g' _ ⟨h.1, h.2.1, h.2.2.1, fun m hm z => (he m _ hm).mp (h.2.2.2 m hm z)⟩
  exact ⟨ss_as (fun i => y 0 i) (fun i => x 0 i), ss_as (fun i => y 1 i) (fun i => x 1 i), ss_as (fun i => y 2 i) (fun i => x 2 i), ss_as (fun i => y 3 i) (fun i => x 3 i)⟩
def pc_4 (a b c d : Int32) : Nat := pc_b a + pc_b b + pc_b c + pc_b d
theorem pc_4m (a b c d : Int32) : pc_4 a b c d ≤ 128 := by
  have := pc_b32 a; have := pc_b32 b; have := pc_b32 c; have := pc_b32 d
  unfold pc_4; omega
theorem pc_4l {a b c d a' b' c' d' : Int32} (ha : ss_le a a') (hb : ss_le b b') (hc : ss_le c c') (hd : ss_le d d') (n : ¬ (a = a' ∧ b = b' ∧ c = c' ∧ d = d')) : pc_4 a b c d < pc_4 a' b' c' d' := by
  have x1 := pc_bm ha; have x2 := pc_bm hb; have x3 := pc_bm hc; have x4 := pc_bm hd
  unfold pc_4
  by_cases e1 : a = a'
  · by_cases e2 : b = b'
    · by_cases e3 : c = c'
      · by_cases e4 : d = d'
        · exact absurd ⟨e1, e2, e3, e4⟩ n
        · have := pc_bl hd e4; omega
      · have := pc_bl hc e3; omega
    · have := pc_bl hb e2; omega
  · have := pc_bl ha e1; omega
