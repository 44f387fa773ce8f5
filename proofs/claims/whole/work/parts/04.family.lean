/-! ===== families: the least of what kin join (pure) ===== -/
def fa_cl (kin : Nat → Nat → Prop) (S : Nat → Prop) : Prop := ∀ a b, kin a b → (S a ↔ S b)
def fa_cp (kin : Nat → Nat → Prop) (m x : Nat) : Prop := ∀ S : Nat → Prop, fa_cl kin S → (S m ↔ S x)
theorem fa_cr (kin : Nat → Nat → Prop) (m : Nat) : fa_cp kin m m := fun _ _ => Iff.rfl
theorem fa_ct {kin : Nat → Nat → Prop} {a b c : Nat} (h : fa_cp kin a b) (g : fa_cp kin b c) : fa_cp kin a c := fun S hS => (h S hS).trans (g S hS)
theorem fa_cs {kin : Nat → Nat → Prop} {a b : Nat} (h : fa_cp kin a b) : fa_cp kin b a := fun S hS => (h S hS).symm
theorem fa_ck {kin : Nat → Nat → Prop} {a b : Nat} (h : kin a b) : fa_cp kin a b := fun _ hS => hS a b h
theorem fa_ex (kin : Nat → Nat → Prop) (m : Nat) : ∃ k, fa_cp kin m k ∧ ∀ j, j < k → ¬ fa_cp kin m j := pk_least _ ⟨m, fa_cr kin m⟩
noncomputable def fa_lf (kin : Nat → Nat → Prop) (m : Nat) : Nat := Exists.choose (fa_ex kin m)
theorem fa_lc (kin : Nat → Nat → Prop) (m : Nat) : fa_cp kin m (fa_lf kin m) := (Exists.choose_spec (fa_ex kin m)).1
theorem fa_ll {kin : Nat → Nat → Prop} {m x : Nat} (h : fa_cp kin m x) : fa_lf kin m ≤ x := by
  rcases Nat.lt_or_ge x (fa_lf kin m) with g | g
  · exact absurd h ((Exists.choose_spec (fa_ex kin m)).2 x g)
  · exact g
theorem fa_lm (kin : Nat → Nat → Prop) (m : Nat) : fa_lf kin m ≤ m := fa_ll (fa_cr kin m)
theorem fa_le {kin : Nat → Nat → Prop} {a b : Nat} (h : fa_cp kin a b) : fa_lf kin a = fa_lf kin b :=
  Nat.le_antisymm (fa_ll (fa_ct h (fa_lc kin b))) (fa_ll (fa_ct (fa_cs h) (fa_lc kin a)))
theorem fa_lk {kin : Nat → Nat → Prop} {a b : Nat} (h : kin a b) : fa_lf kin a = fa_lf kin b := fa_le (fa_ck h)
theorem fa_li (kin : Nat → Nat → Prop) (m : Nat) : fa_lf kin (fa_lf kin m) = fa_lf kin m := (fa_le (fa_lc kin m)).symm
/-- what all kin share, a family shares -/
theorem fa_sh {kin : Nat → Nat → Prop} {α : Type} (f : Nat → α) (h : ∀ a b, kin a b → f a = f b) (m : Nat) : f (fa_lf kin m) = f m :=
  ((fa_lc kin m) (fun x => f x = f m) (fun a b k => by show f a = f m ↔ f b = f m; rw [h a b k])).mp rfl
theorem fa_st {kin : Nat → Nat → Prop} {fam : Nat → Nat} (h1 : ∀ a b, kin a b → fam a = fam b) (h2 : ∀ m, fa_cp kin m (fam m)) (h3 : ∀ m, fam m ≤ m) (m : Nat) : fam m = fa_lf kin m := by
  have a : fam (fa_lf kin m) = fam m := fa_sh fam h1 m
  have b := h3 (fa_lf kin m)
  have c := fa_ll (h2 m)
  omega
/-- while not all are settled, one that isn't has a settled kin -/
theorem fa_go {kin : Nat → Nat → Prop} (sy : ∀ a b, kin a b → kin b a) {fam : Nat → Nat} (h2 : ∀ m, fa_cp kin m (fam m)) (h3 : ∀ m, fam m ≤ m) {m : Nat} (u : ¬ fam m = fa_lf kin m) :
    ∃ a b, kin a b ∧ ¬ fam a = fa_lf kin a ∧ fam b = fa_lf kin b := by
  apply Classical.byContradiction
  intro no
  have st : ∀ a b, kin a b → fam b = fa_lf kin b → fam a = fa_lf kin a := fun a b k e =>
    Classical.byContradiction (fun z => no ⟨a, b, k, z, e⟩)
  have cl : fa_cl kin (fun x => fam x = fa_lf kin x) := fun a b k => ⟨fun z => st b a (sy a b k) z, fun z => st a b k z⟩
  have r : fam (fa_lf kin m) = fa_lf kin (fa_lf kin m) := by
    have x := h3 (fa_lf kin m)
    have y := fa_ll (h2 (fa_lf kin m))
    have z := fa_li kin m
    omega
  exact u (((fa_lc kin m) _ cl).mpr r)
/-- a round in which every one takes at most what its kin had before settles one more -/
theorem fa_rd {kin : Nat → Nat → Prop} (sy : ∀ a b, kin a b → kin b a) {M : Nat} (kM : ∀ a b, kin a b → a < M) {fam new : Nat → Nat} (h2 : ∀ m, fa_cp kin m (fam m)) (h3 : ∀ m, fam m ≤ m)
    (n2 : ∀ m, fa_cp kin m (new m)) (n1 : ∀ m, new m ≤ fam m) (nk : ∀ a b, kin a b → new a ≤ fam b) :
    (∀ m, fam m = fa_lf kin m) ∨ pc_n (fun m => decide (fam m = fa_lf kin m)) M < pc_n (fun m => decide (new m = fa_lf kin m)) M := by
  by_cases u : ∃ m, ¬ fam m = fa_lf kin m
  · obtain ⟨m, u⟩ := u
    obtain ⟨a, b, k, na, sb⟩ := fa_go sy h2 h3 u
    refine Or.inr (pc_lt (i := a) (fun i _ z => ?_) (kM a b k) ?_ ?_)
    · have z' := of_decide_eq_true z
      have x := fa_ll (n2 i)
      have y := n1 i
      exact decide_eq_true (by omega)
    · have x := fa_ll (n2 a)
      have y := nk a b k
      have w := fa_lk k
      exact decide_eq_true (by omega)
    · exact fun z => na (of_decide_eq_true z)
  · exact Or.inl (fun m => Classical.byContradiction (fun z => u ⟨m, z⟩))
