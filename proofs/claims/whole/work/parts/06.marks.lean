/-! ===== marking (pure): the least closed sets. S 0: NAMED classes, S 1: MADE, S 2: NAMED methods, S 3: LIVE ===== -/
def mk_s (a b c d : Int32) (k i : Nat) : Prop :=
  match k with
  | 0 => bt a i = true
  | 1 => bt b i = true
  | 2 => bt c i = true
  | 3 => bt d i = true
  | _ => False
def cl_ok (C M R : Nat) (anc hom nam rk rc rn : Nat → Int32) (fil : Nat → Prop) (E : Nat → (Nat → Nat → Prop) → Prop) (S : Nat → Nat → Prop) : Prop :=
  (∀ r, r < R → rk r = 0 → (∀ c, c < C → bt (rc r) c = true → S 0 c) ∧
    ∀ m, m < M → bt (rc r) (hq_t (hom m)) = true → bt (rn r) (hq_t (nam m)) = true → S 2 m ∧ (fil m → S 3 m)) ∧
  (∀ m, m < M → S 2 m → S 0 (hq_t (hom m))) ∧
  (∀ c, c < C → S 0 c → ∀ i, bt (anc c) i = true → S 0 i) ∧
  (∀ m, m < M → S 3 m → E m S)
/-- what an instruction asks of closed sets: o c n as told, v whether it is INLINED; F c n: what is found -/
def ef_p (C : Nat) (anc : Nat → Int32) (fil : Nat → Prop) (F : Nat → Int32 → Option Nat) (o c n : Int32) (v : Prop) (S : Nat → Nat → Prop) : Prop :=
  (o = 1 → S 0 (hq_t c) ∧ S 1 (hq_t c)) ∧
  (o = 4 → S 0 (hq_t c)) ∧
  (o = 3 → ¬ v → S 0 (hq_t c) ∧ ∀ f, F (hq_t c) n = some f → S 2 f ∧ (fil f → S 3 f)) ∧
  (o = 2 → S 0 (hq_t c) ∧ (¬ v → (∀ f, F (hq_t c) n = some f → S 2 f) ∧
    ∀ d, d < C → S 1 d → bt (anc d) (hq_t c) = true → ∀ g, F d n = some g → S 2 g ∧ (fil g → S 3 g)))
def mk_le (a b c d : Int32) (S : Nat → Nat → Prop) : Prop := ∀ k i, mk_s a b c d k i → S k i
theorem mk_lI {a b c d : Int32} {S : Nat → Nat → Prop} (h0 : ∀ i, bt a i = true → S 0 i) (h1 : ∀ i, bt b i = true → S 1 i) (h2 : ∀ i, bt c i = true → S 2 i)
    (h3 : ∀ i, bt d i = true → S 3 i) : mk_le a b c d S := by
  intro k i z
  match k, z with
  | 0, z => exact h0 i z
  | 1, z => exact h1 i z
  | 2, z => exact h2 i z
  | 3, z => exact h3 i z
  | k + 4, z => exact absurd z (fun y => y)
/-- the marks are a closed set, and in every closed set: two such are the same -/
theorem mk_un {C M R : Nat} {anc hom nam rk rc rn : Nat → Int32} {fil : Nat → Prop} {E E' : Nat → (Nat → Nat → Prop) → Prop} (he : ∀ m S, m < M → (E m S ↔ E' m S)) {a b c d a' b' c' d' : Int32}
    (h : cl_ok C M R anc hom nam rk rc rn fil E (mk_s a b c d)) (g : ∀ S, cl_ok C M R anc hom nam rk rc rn fil E S → mk_le a b c d S)
    (h' : cl_ok C M R anc hom nam rk rc rn fil E' (mk_s a' b' c' d')) (g' : ∀ S, cl_ok C M R anc hom nam rk rc rn fil E' S → mk_le a' b' c' d' S) :
    a' = a ∧ b' = b ∧ c' = c ∧ d' = d := by
  have x : mk_le a b c d (mk_s a' b' c' d') := g _ ⟨h'.1, h'.2.1, h'.2.2.1, fun m hm z => (he m _ hm).mpr (h'.2.2.2 m hm z)⟩
  have y : mk_le a' b' c' d' (mk_s a b c d) := g' _ ⟨h.1, h.2.1, h.2.2.1, fun m hm z => (he m _ hm).mp (h.2.2.2 m hm z)⟩
  exact ⟨ss_as (fun i => y 0 i) (fun i => x 0 i), ss_as (fun i => y 1 i) (fun i => x 1 i), ss_as (fun i => y 2 i) (fun i => x 2 i), ss_as (fun i => y 3 i) (fun i => x 3 i)⟩
def pc_4 (a b c d : Int32) : Nat := pc_b a + pc_b b + pc_b c + pc_b d
theorem pc_4m (a b c d : Int32) : pc_4 a b c d ≤ 128 := by
  have := pc_b32 a; have := pc_b32 b; have := pc_b32 c; have := pc_b32 d
  unfold pc_4; omega
theorem pc_4l {a b c d a' b' c' d' : Int32} (ha : ss_le a a') (hb : ss_le b b') (hc : ss_le c c') (hd : ss_le d d') (n : ¬ (a = a' ∧ b = b' ∧ c = c' ∧ d = d')) : pc_4 a b c d < pc_4 a' b' c' d' := by
  have x1 := pc_bm ha; have x2 := pc_bm hb; have x3 := pc_bm hc; have x4 := pc_bm hd
  unfold pc_4
  by_cases e1 : a = a'
  · by_cases e2 : b = b'
    · by_cases e3 : c = c'
      · by_cases e4 : d = d'
        · exact absurd ⟨e1, e2, e3, e4⟩ n
        · have := pc_bl hd e4; omega
      · have := pc_bl hc e3; omega
    · have := pc_bl hb e2; omega
  · have := pc_bl ha e1; omega
theorem mk_a0 {a b c d x : Int32} {S : Nat → Nat → Prop} (h : mk_le a b c d S) (g : ∀ i, bt x i = true → S 0 i) : mk_le (a ||| x) b c d S :=
  mk_lI (fun i z => by rw [b_or, Bool.or_eq_true] at z; exact z.elim (h 0 i) (g i)) (h 1) (h 2) (h 3)
theorem mk_a1 {a b c d x : Int32} {S : Nat → Nat → Prop} (h : mk_le a b c d S) (g : ∀ i, bt x i = true → S 1 i) : mk_le a (b ||| x) c d S :=
  mk_lI (h 0) (fun i z => by rw [b_or, Bool.or_eq_true] at z; exact z.elim (h 1 i) (g i)) (h 2) (h 3)
theorem mk_a2 {a b c d x : Int32} {S : Nat → Nat → Prop} (h : mk_le a b c d S) (g : ∀ i, bt x i = true → S 2 i) : mk_le a b (c ||| x) d S :=
  mk_lI (h 0) (h 1) (fun i z => by rw [b_or, Bool.or_eq_true] at z; exact z.elim (h 2 i) (g i)) (h 3)
theorem mk_a3 {a b c d x : Int32} {S : Nat → Nat → Prop} (h : mk_le a b c d S) (g : ∀ i, bt x i = true → S 3 i) : mk_le a b c (d ||| x) S :=
  mk_lI (h 0) (h 1) (h 2) (fun i z => by rw [b_or, Bool.or_eq_true] at z; exact z.elim (h 3 i) (g i))
theorem mk_b1 {P : Nat → Prop} {k : Nat} (hk : k < 32) (h : P k) : ∀ i, bt ((1 : Int32) <<< (nI k &&& 31)) i = true → P i := fun i z => by
  rw [bq_1 hk, decide_eq_true_eq] at z
  subst z; exact h
/-- the marks grow -/
def mk_gr (a b c d a' b' c' d' : Int32) : Prop := ss_le a a' ∧ ss_le b b' ∧ ss_le c c' ∧ ss_le d d'
theorem mk_gr0 (a b c d : Int32) : mk_gr a b c d a b c d := ⟨ss_rf a, ss_rf b, ss_rf c, ss_rf d⟩
theorem mk_grt {a b c d a' b' c' d' a'' b'' c'' d'' : Int32} (h : mk_gr a b c d a' b' c' d') (g : mk_gr a' b' c' d' a'' b'' c'' d'') : mk_gr a b c d a'' b'' c'' d'' :=
  ⟨ss_tr h.1 g.1, ss_tr h.2.1 g.2.1, ss_tr h.2.2.1 g.2.2.1, ss_tr h.2.2.2 g.2.2.2⟩
/-- grown and not beyond where it began: nothing has changed on the way -/
theorem mk_gre {a b c d a' b' c' d' : Int32} (h : mk_gr a b c d a' b' c' d') (g : mk_gr a' b' c' d' a b c d) : a' = a ∧ b' = b ∧ c' = c ∧ d' = d :=
  ⟨ss_as g.1 h.1, ss_as g.2.1 h.2.1, ss_as g.2.2.1 h.2.2.1, ss_as g.2.2.2 h.2.2.2⟩
/-- what holds of the class's marks all along -/
def mi_ok (C M R : Nat) (anc hom nam rk rc rn : Nat → Int32) (fil : Nat → Prop) (E : Nat → (Nat → Nat → Prop) → Prop) (a b c d : Int32) : Prop :=
  (∀ S, cl_ok C M R anc hom nam rk rc rn fil E S → mk_le a b c d S) ∧ ss_le d c ∧ (∀ i, bt a i = true → i < C) ∧ (∀ i, bt b i = true → i < C) ∧ (∀ i, bt c i = true → i < M) ∧
  (∀ i j, bt a i = true → bt (anc i) j = true → bt a j = true) ∧ (∀ m, bt c m = true → bt a (hq_t (hom m)) = true)
section
variable {C M R : Nat} {anc hom nam rk rc rn ifc chn par : Nat → Int32} {fil : Nat → Prop} {E : Nat → (Nat → Nat → Prop) → Prop} {a b c d : Int32}
theorem mi_0 : mi_ok C M R anc hom nam rk rc rn fil E 0 0 0 0 := by
  have z : ∀ i, ¬ bt 0 i = true := fun i h => by rw [b_0] at h; exact absurd h (by decide)
  exact ⟨fun S _ => mk_lI (fun i h => absurd h (z i)) (fun i h => absurd h (z i)) (fun i h => absurd h (z i)) (fun i h => absurd h (z i)), ss_rf 0, fun i h => absurd h (z i), fun i h => absurd h (z i),
    fun i h => absurd h (z i), fun i _ h => absurd h (z i), fun i h => absurd h (z i)⟩
theorem mi_N (hh : hi_ok C ifc anc chn par) (h : mi_ok C M R anc hom nam rk rc rn fil E a b c d) {k : Nat} (hk : k < C)
    (J : ∀ S, cl_ok C M R anc hom nam rk rc rn fil E S → mk_le a b c d S → S 0 k) :
    mi_ok C M R anc hom nam rk rc rn fil E (a ||| anc k) b c d ∧ mk_gr a b c d (a ||| anc k) b c d ∧ bt (a ||| anc k) k = true := by
  obtain ⟨h1, h2, h3, h4, h5, h6, h7⟩ := h
  obtain ⟨q1, q2, q3, _⟩ := hh.2 k hk
  refine ⟨⟨fun S hS => mk_a0 (h1 S hS) (fun i z => hS.2.2.1 k hk (J S hS (h1 S hS)) i z), h2, fun i z => ?_, h4, h5, fun i j z w => ?_, fun m z => ss_ol a _ _ (h7 m z)⟩,
    ⟨ss_ol a _, ss_rf b, ss_rf c, ss_rf d⟩, ss_or a _ k q1⟩
  · rw [b_or, Bool.or_eq_true] at z
    rcases z with z | z
    · exact h3 i z
    · have := q2 i z; omega
  · rw [b_or, Bool.or_eq_true] at z
    rcases z with z | z
    · exact ss_ol a _ _ (h6 i j z w)
    · exact ss_or a _ _ (q3 i j z w)
theorem mi_D (hC : C ≤ 10) (h : mi_ok C M R anc hom nam rk rc rn fil E a b c d) {k : Nat} (hk : k < C)
    (J : ∀ S, cl_ok C M R anc hom nam rk rc rn fil E S → mk_le a b c d S → S 1 k) :
    mi_ok C M R anc hom nam rk rc rn fil E a (b ||| ((1 : Int32) <<< (nI k &&& 31))) c d ∧ mk_gr a b c d a (b ||| ((1 : Int32) <<< (nI k &&& 31))) c d ∧ bt (b ||| ((1 : Int32) <<< (nI k &&& 31))) k = true := by
  obtain ⟨h1, h2, h3, h4, h5, h6, h7⟩ := h
  refine ⟨⟨fun S hS => mk_a1 (h1 S hS) (mk_b1 (by omega) (J S hS (h1 S hS))), h2, h3, fun i z => ?_, h5, h6, h7⟩, ⟨ss_rf a, ss_ol b _, ss_rf c, ss_rf d⟩, (bq_o1 b (by omega) k).mpr (Or.inr rfl)⟩
  rcases (bq_o1 b (by omega) i).mp z with z | z
  · exact h4 i z
  · omega
theorem mi_Q (hh : hi_ok C ifc anc chn par) (hg : mh_ok C M hom) (h : mi_ok C M R anc hom nam rk rc rn fil E a b c d) {m : Nat} (hm : m < M)
    (J : ∀ S, cl_ok C M R anc hom nam rk rc rn fil E S → mk_le a b c d S → S 2 m) :
    mi_ok C M R anc hom nam rk rc rn fil E (a ||| anc (hq_t (hom m))) b (c ||| ((1 : Int32) <<< (nI m &&& 31))) d ∧
      mk_gr a b c d (a ||| anc (hq_t (hom m))) b (c ||| ((1 : Int32) <<< (nI m &&& 31))) d ∧ bt (c ||| ((1 : Int32) <<< (nI m &&& 31))) m = true := by
  have hM := hg.1
  have hc := (mh_h hg hh.1 hm).2
  obtain ⟨i1, i2, i3⟩ := mi_N hh h hc (fun S hS g => hS.2.1 m hm (J S hS g))
  obtain ⟨h1, h2, h3, h4, h5, h6, h7⟩ := i1
  refine ⟨⟨fun S hS => mk_a2 (h1 S hS) (mk_b1 (by omega) (J S hS (h.1 S hS))), fun i z => ss_ol c _ i (h2 i z), h3, h4, fun i z => ?_, h6, fun i z => ?_⟩, ⟨i2.1, ss_rf b, ss_ol c _, ss_rf d⟩, (bq_o1 c (by omega) m).mpr (Or.inr rfl)⟩
  · rcases (bq_o1 c (by omega) i).mp z with z | z
    · exact h5 i z
    · omega
  · rcases (bq_o1 c (by omega) i).mp z with z | z
    · exact h7 i z
    · subst z; exact i3
theorem mi_L (hM : M ≤ 30) (h : mi_ok C M R anc hom nam rk rc rn fil E a b c d) {m : Nat} (hm : m < M) (hc : bt c m = true)
    (J : ∀ S, cl_ok C M R anc hom nam rk rc rn fil E S → mk_le a b c d S → S 3 m) :
    mi_ok C M R anc hom nam rk rc rn fil E a b c (d ||| ((1 : Int32) <<< (nI m &&& 31))) ∧ mk_gr a b c d a b c (d ||| ((1 : Int32) <<< (nI m &&& 31))) ∧ bt (d ||| ((1 : Int32) <<< (nI m &&& 31))) m = true := by
  obtain ⟨h1, h2, h3, h4, h5, h6, h7⟩ := h
  refine ⟨⟨fun S hS => mk_a3 (h1 S hS) (mk_b1 (by omega) (J S hS (h1 S hS))), fun i z => ?_, h3, h4, h5, h6, h7⟩, ⟨ss_rf a, ss_rf b, ss_rf c, ss_ol d _⟩, (bq_o1 d (by omega) m).mpr (Or.inr rfl)⟩
  rcases (bq_o1 d (by omega) i).mp z with z | z
  · exact h2 i z
  · subst z; exact hc
end
