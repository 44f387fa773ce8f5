/-! ===== the least that isn't (pure) ===== -/
theorem le_ex (p : Nat → Prop) : ∃ k, (¬ p k ∧ ∀ j, j < k → p j) ∨ ∀ j, p j := by
  by_cases h : ∃ k, ¬ p k
  · obtain ⟨k, a, b⟩ := pk_least (fun k => ¬ p k) h
    exact ⟨k, Or.inl ⟨a, fun j hj => Classical.byContradiction (b j hj)⟩⟩
  · exact ⟨0, Or.inr (fun j => Classical.byContradiction (fun z => h ⟨j, z⟩))⟩
noncomputable def le_o (p : Nat → Prop) : Nat := Exists.choose (le_ex p)
theorem le_u {p : Nat → Prop} {k : Nat} (h : ¬ p k) (g : ∀ j, j < k → p j) : le_o p = k := by
  rcases Exists.choose_spec (le_ex p) with ⟨a, b⟩ | a
  · rcases Nat.lt_trichotomy (le_o p) k with c | c | c
    · exact absurd (g _ c) a
    · exact c
    · exact absurd (b _ c) h
  · exact absurd (a k) h
theorem le_x {p : Nat → Prop} {k : Nat} (h : ¬ p k) : ¬ p (le_o p) ∧ (∀ j, j < le_o p → p j) ∧ le_o p ≤ k := by
  rcases Exists.choose_spec (le_ex p) with ⟨a, b⟩ | a
  · refine ⟨a, b, ?_⟩
    rcases Nat.lt_or_ge k (le_o p) with c | c
    · exact absurd (b k c) h
    · exact c
  · exact absurd (a k) h
/-! ===== new names (pure) ===== -/
section
variable (C M R : Nat) (anc hom nam rc rn : Nat → Int32) (N Q : Int32)
def kn_p (a b : Nat) : Prop := a < M ∧ b < M ∧ bt Q a = true ∧ bt Q b = true ∧ nam a = nam b ∧ ∃ d, d < C ∧ bt N d = true ∧ bt (anc d) (hq_t (hom a)) = true ∧ bt (anc d) (hq_t (hom b)) = true
noncomputable def kn_f (m : Nat) : Nat := fa_lf (kn_p C M anc hom nam N Q) m
def sg_p (f d : Nat) : Prop := d < C ∧ bt N d = true ∧ ∃ m, m < M ∧ bt Q m = true ∧ kn_f C M anc hom nam N Q m = f ∧ bt (anc d) (hq_t (hom m)) = true
def sg_m (f g : Nat) : Prop := ∃ d, sg_p C M anc hom nam N Q f d ∧ sg_p C M anc hom nam N Q g d
def ru_p (m : Nat) : Prop := ∃ r, r < R ∧ bt (rc r) (hq_t (hom m)) = true ∧ bt (rn r) (hq_t (nam m)) = true
def kp_p (g : Nat) : Prop := ∃ m, m < M ∧ bt Q m = true ∧ ru_p R hom nam rc rn m ∧ kn_f C M anc hom nam N Q m = g
def na_tk (nn : Nat → Int32) (f n : Nat) : Prop := ∃ g, g < M ∧ nn g = nI n ∧ sg_m C M anc hom nam N Q f g
noncomputable def na_0 (g : Nat) : Int32 := @ite _ (kp_p C M R anc hom nam rc rn N Q g) (Classical.propDecidable _) (nam g) (-1)
noncomputable def na_it : Nat → Nat → Int32
  | 0 => na_0 C M R anc hom nam rc rn N Q
  | f + 1 => @ite _ (bt Q f = true ∧ kn_f C M anc hom nam N Q f = f ∧ ¬ kp_p C M R anc hom nam rc rn N Q f) (Classical.propDecidable _)
      (upd (na_it f) f (nI (le_o (na_tk C M anc hom nam N Q (na_it f) f)))) (na_it f)
def na_ok (f : Nat) (nn : Nat → Int32) : Prop :=
  (∀ g, g < M → nn g = -1 ∨ ∃ n, n < 30 ∧ nn g = nI n ∧ bt Q g = true ∧ kn_f C M anc hom nam N Q g = g) ∧
  (∀ g h, g < M → h < M → g ≠ h → ¬ nn g = -1 → nn g = nn h → ¬ sg_m C M anc hom nam N Q g h) ∧
  (∀ g, f ≤ g → g < M → ¬ kp_p C M R anc hom nam rc rn N Q g → nn g = -1) ∧
  (∀ g, g < M → kp_p C M R anc hom nam rc rn N Q g → nn g = nam g) ∧
  (∀ g, g < f → g < M → bt Q g = true → kn_f C M anc hom nam N Q g = g → ¬ nn g = -1)
end
section
variable {C M R : Nat} {anc hom nam rc rn : Nat → Int32} {N Q : Int32}
theorem kn_sy (a b : Nat) (h : kn_p C M anc hom nam N Q a b) : kn_p C M anc hom nam N Q b a := by
  obtain ⟨h1, h2, h3, h4, h5, d, h6, h7, h8, h9⟩ := h
  exact ⟨h2, h1, h4, h3, h5.symm, d, h6, h7, h9, h8⟩
theorem kn_le (m : Nat) : kn_f C M anc hom nam N Q m ≤ m := fa_lm _ m
theorem kn_id (m : Nat) : kn_f C M anc hom nam N Q (kn_f C M anc hom nam N Q m) = kn_f C M anc hom nam N Q m := fa_li _ m
theorem kn_nm (m : Nat) : nam (kn_f C M anc hom nam N Q m) = nam m := fa_sh nam (fun _ _ h => h.2.2.2.2.1) m
theorem kn_q (m : Nat) : bt Q (kn_f C M anc hom nam N Q m) = bt Q m := fa_sh (bt Q) (fun _ _ h => h.2.2.1.trans h.2.2.2.1.symm) m
theorem kn_k {a b : Nat} (h : kn_p C M anc hom nam N Q a b) : kn_f C M anc hom nam N Q a = kn_f C M anc hom nam N Q b := fa_lk h
theorem sg_sy {f g : Nat} (h : sg_m C M anc hom nam N Q f g) : sg_m C M anc hom nam N Q g f := by
  obtain ⟨d, a, b⟩ := h
  exact ⟨d, b, a⟩
theorem kp_i {g : Nat} (h : kp_p C M R anc hom nam rc rn N Q g) : g < M ∧ bt Q g = true ∧ kn_f C M anc hom nam N Q g = g := by
  obtain ⟨m, h1, h2, h3, rfl⟩ := h
  have := kn_le (C := C) (M := M) (anc := anc) (hom := hom) (nam := nam) (N := N) (Q := Q) m
  exact ⟨by omega, (kn_q m).trans h2, kn_id m⟩
/-- two families that meet and have one old name are one -/
theorem sg_one {f g : Nat} (h : sg_m C M anc hom nam N Q f g) (e : nam f = nam g) : f = g := by
  obtain ⟨d, ⟨h1, h2, a, a1, a2, a3, a4⟩, ⟨_, _, b, b1, b2, b3, b4⟩⟩ := h
  have na : nam a = nam f := by rw [← a3]; exact (kn_nm a).symm
  have nb : nam b = nam g := by rw [← b3]; exact (kn_nm b).symm
  have := kn_k (⟨a1, b1, a2, b2, by rw [na, nb, e], d, h1, h2, a4, b4⟩ : kn_p C M anc hom nam N Q a b)
  rw [a3, b3] at this
  exact this
theorem na_i0 (hn : ∀ m, m < M → ∃ n, n < 10 ∧ nam m = nI n) : na_ok C M R anc hom nam rc rn N Q 0 (na_it C M R anc hom nam rc rn N Q 0) := by
  have pos : ∀ g, kp_p C M R anc hom nam rc rn N Q g → na_it C M R anc hom nam rc rn N Q 0 g = nam g := fun g h => if_pos h
  have neg : ∀ g, ¬ kp_p C M R anc hom nam rc rn N Q g → na_it C M R anc hom nam rc rn N Q 0 g = -1 := fun g h => if_neg h
  refine ⟨fun g hg => ?_, fun g h hg hh ne n1 e => ?_, fun g _ _ k => neg g k, fun g _ k => pos g k, fun g hg => by omega⟩
  · by_cases k : kp_p C M R anc hom nam rc rn N Q g
    · obtain ⟨n, a, b⟩ := hn g hg
      exact Or.inr ⟨n, by omega, (pos g k).trans b, (kp_i k).2⟩
    · exact Or.inl (neg g k)
  · by_cases k : kp_p C M R anc hom nam rc rn N Q g
    · by_cases l : kp_p C M R anc hom nam rc rn N Q h
      · rw [pos g k, pos h l] at e
        exact fun z => ne (sg_one z e)
      · rw [neg h l] at e
        exact absurd e n1
    · exact absurd (neg g k) n1
/-- fewer than 30 names are taken -/
theorem na_30 (hM : M ≤ 30) {f : Nat} (hf : f < M) {nn : Nat → Int32} (h : na_ok C M R anc hom nam rc rn N Q f nn) (k : ¬ kp_p C M R anc hom nam rc rn N Q f) :
    ∃ n, n < 30 ∧ ¬ na_tk C M anc hom nam N Q nn f n := by
  apply Classical.byContradiction
  intro no
  have all : ∀ n, n < 30 → na_tk C M anc hom nam N Q nn f n := fun n hn => Classical.byContradiction (fun z => no ⟨n, hn, z⟩)
  have nf : nn f = -1 := h.2.2.1 f (Nat.le_refl f) hf k
  refine pg_x 30 (fun g => hq_t (nn g)) f (by omega) (fun n hn => ?_)
  obtain ⟨g, hg, e, _⟩ := all n hn
  refine ⟨g, by omega, fun z => ?_, ?_⟩
  · subst z; rw [nf] at e; exact oI_n (by omega) e.symm
  · show hq_t (nn g) = n
    rw [e]; exact hq_e (by omega)
theorem na_tkS {nn : Nat → Int32} {f : Nat} (hM : M ≤ 30) (hf : f < M) (h : na_ok C M R anc hom nam rc rn N Q f nn) (k : ¬ kp_p C M R anc hom nam rc rn N Q f) :
    le_o (na_tk C M anc hom nam N Q nn f) < 30 ∧ ¬ na_tk C M anc hom nam N Q nn f (le_o (na_tk C M anc hom nam N Q nn f)) := by
  obtain ⟨n, hn, t⟩ := na_30 hM hf h k
  obtain ⟨a, _, c⟩ := le_x t
  exact ⟨by omega, a⟩
theorem na_s (hn : ∀ m, m < M → ∃ n, n < 10 ∧ nam m = nI n) (hM : M ≤ 30) {f : Nat} (hf : f < M) (h : na_ok C M R anc hom nam rc rn N Q f (na_it C M R anc hom nam rc rn N Q f)) :
    na_ok C M R anc hom nam rc rn N Q (f + 1) (na_it C M R anc hom nam rc rn N Q (f + 1)) := by
  by_cases c : bt Q f = true ∧ kn_f C M anc hom nam N Q f = f ∧ ¬ kp_p C M R anc hom nam rc rn N Q f
  · have e : na_it C M R anc hom nam rc rn N Q (f + 1) = upd (na_it C M R anc hom nam rc rn N Q f) f (nI (le_o (na_tk C M anc hom nam N Q (na_it C M R anc hom nam rc rn N Q f) f))) := if_pos c
    obtain ⟨l30, ntk⟩ := na_tkS hM hf h c.2.2
    rw [e]
    generalize na_it C M R anc hom nam rc rn N Q f = nn at *
    generalize le_o (na_tk C M anc hom nam N Q nn f) = n at *
    obtain ⟨h1, h2, h3, h4, h5⟩ := h
    have nz : ¬ nI n = -1 := oI_n (by omega)
    refine ⟨fun g hg => ?_, fun g k hg hk ne n1 e => ?_, fun g a b k => ?_, fun g a k => ?_, fun g a b r i => ?_⟩
    · by_cases z : g = f
      · subst z; exact Or.inr ⟨n, l30, pk_us, c.1, c.2.1⟩
      · rw [pk_un z]; exact h1 g hg
    · by_cases z : g = f
      · subst z
        rw [pk_us, pk_un (fun y => ne y.symm)] at e
        exact fun y => ntk ⟨k, hk, e.symm, y⟩
      · by_cases y : k = f
        · subst y
          rw [pk_us, pk_un z] at e
          exact fun x => ntk ⟨g, hg, e, sg_sy x⟩
        · rw [pk_un z] at n1 e
          rw [pk_un y] at e
          exact h2 g k hg hk ne n1 e
    · rw [pk_un (by omega)]; exact h3 g (by omega) b k
    · by_cases z : g = f
      · subst z; exact absurd k c.2.2
      · rw [pk_un z]; exact h4 g a k
    · by_cases z : g = f
      · subst z; rw [pk_us]; exact nz
      · rw [pk_un z]; exact h5 g (by omega) b r i
  · have e : na_it C M R anc hom nam rc rn N Q (f + 1) = na_it C M R anc hom nam rc rn N Q f := if_neg c
    rw [e]
    generalize na_it C M R anc hom nam rc rn N Q f = nn at *
    obtain ⟨h1, h2, h3, h4, h5⟩ := h
    refine ⟨h1, h2, fun g a b k => h3 g (by omega) b k, h4, fun g a b r i => ?_⟩
    rcases Nat.lt_or_ge g f with z | z
    · exact h5 g z b r i
    · have : g = f := by omega
      subst this
      have k : kp_p C M R anc hom nam rc rn N Q g := Classical.byContradiction (fun y => c ⟨r, i, y⟩)
      obtain ⟨n, a', e'⟩ := hn g b
      rw [h4 g b k, e']
      exact oI_n (by omega)
theorem na_all (hM : M ≤ 30) (hn : ∀ m, m < M → ∃ n, n < 10 ∧ nam m = nI n) : ∀ f, f ≤ M → na_ok C M R anc hom nam rc rn N Q f (na_it C M R anc hom nam rc rn N Q f)
  | 0, _ => na_i0 hn
  | f + 1, h => na_s hn hM (by omega) (na_all hM hn f (by omega))
/-- the new name of a method -/
theorem na_fin {nn : Nat → Int32} (h : na_ok C M R anc hom nam rc rn N Q M nn) {m : Nat} (hm : m < M) (hq : bt Q m = true) :
    ∃ n, n < 30 ∧ nn (kn_f C M anc hom nam N Q m) = nI n := by
  have l := kn_le (C := C) (M := M) (anc := anc) (hom := hom) (nam := nam) (N := N) (Q := Q) m
  rcases h.1 (kn_f C M anc hom nam N Q m) (by omega) with z | ⟨n, a, b, _⟩
  · exact absurd z (h.2.2.2.2 _ (by omega) (by omega) ((kn_q m).trans hq) (kn_id m))
  · exact ⟨n, a, b⟩
/-- one of one home and new name at the most -/
theorem na_un {nn : Nat → Int32} (h : na_ok C M R anc hom nam rc rn N Q M nn) (self : ∀ m, m < M → bt Q m = true → hq_t (hom m) < C ∧ bt N (hq_t (hom m)) = true ∧ bt (anc (hq_t (hom m))) (hq_t (hom m)) = true)
    (un : ∀ a b, a < M → b < M → nam a = nam b → hq_t (hom a) = hq_t (hom b) → a = b) {a b : Nat} (ha : a < M) (hb : b < M) (qa : bt Q a = true) (qb : bt Q b = true)
    (e : nn (kn_f C M anc hom nam N Q a) = nn (kn_f C M anc hom nam N Q b)) (eh : hq_t (hom a) = hq_t (hom b)) : a = b := by
  have la := kn_le (C := C) (M := M) (anc := anc) (hom := hom) (nam := nam) (N := N) (Q := Q) a
  have lb := kn_le (C := C) (M := M) (anc := anc) (hom := hom) (nam := nam) (N := N) (Q := Q) b
  obtain ⟨s1, s2, s3⟩ := self a ha qa
  have mt : sg_m C M anc hom nam N Q (kn_f C M anc hom nam N Q a) (kn_f C M anc hom nam N Q b) :=
    ⟨hq_t (hom a), ⟨s1, s2, a, ha, qa, rfl, s3⟩, ⟨s1, s2, b, hb, qb, rfl, by rw [← eh]; exact s3⟩⟩
  obtain ⟨n, n1, n2⟩ := na_fin h ha qa
  by_cases c : kn_f C M anc hom nam N Q a = kn_f C M anc hom nam N Q b
  · refine un a b ha hb ?_ eh
    have x := kn_nm (C := C) (M := M) (anc := anc) (hom := hom) (nam := nam) (N := N) (Q := Q) a
    have y := kn_nm (C := C) (M := M) (anc := anc) (hom := hom) (nam := nam) (N := N) (Q := Q) b
    rw [← x, ← y, c]
  · exact absurd mt (h.2.1 _ _ (by omega) (by omega) c (by rw [n2]; exact oI_n (by omega)) e)
end
