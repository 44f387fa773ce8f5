/-! ===== telling the program (pure) ===== -/
theorem up_up (f : Nat → Int32) (k : Nat) (x y : Int32) : upd (upd f k x) k y = upd f k y := by
  funext j
  unfold upd
  by_cases c : j = k
  · rw [if_pos c, if_pos c]
  · rw [if_neg c, if_neg c, if_neg c]
/-- interfaces have no parent -/
def ip_p (C : Nat) (ifc par : Nat → Int32) : Prop := ∀ c, c < C → ¬ ifc c = 0 → par c = -1
theorem hi_1 {C : Nat} {ifc anc chn par : Nat → Int32} (h : hi_ok C ifc anc chn par) (hC : C < 10) (b : Int32) :
    hi_ok (C + 1) (upd ifc C b) (upd anc C ((1 : Int32) <<< (nI C &&& 31))) (upd chn C ((1 : Int32) <<< (nI C &&& 31))) (upd par C (-1)) := by
  have b1 : ∀ i, bt ((1 : Int32) <<< (nI C &&& 31)) i = true ↔ i = C := fun i => by rw [bq_1 (by omega), decide_eq_true_eq]
  refine ⟨by omega, fun c hc => ?_⟩
  by_cases e : c = C
  · subst e
    rw [pk_us, pk_us, pk_us]
    refine ⟨(b1 c).mpr rfl, fun i z => by have := (b1 i).mp z; omega, fun i j z w => ?_, fun i z => z, fun i z w => absurd z w, Or.inl ⟨rfl, b1⟩⟩
    have := (b1 i).mp z
    subst this
    rw [pk_us] at w; exact w
  · obtain ⟨q1, q2, q3, q4, q5, q6⟩ := h.2 c (by omega)
    rw [pk_un e, pk_un e, pk_un e]
    refine ⟨q1, q2, fun i j z w => ?_, q4, fun i z w => ?_, ?_⟩
    · have := q2 i z
      rw [pk_un (by omega)] at w
      exact q3 i j z w
    · have := q2 i z
      rw [pk_un (by omega)]
      exact q5 i z w
    · rcases q6 with z | ⟨p, hp, z1, z2, z3⟩
      · exact Or.inl z
      · refine Or.inr ⟨p, hp, z1, by rw [pk_un (by omega)]; exact z2, ?_⟩
        rw [pk_un (by omega)]; exact z3
theorem hi_2 {C p : Nat} {ifc anc chn par : Nat → Int32} (h : hi_ok C ifc anc chn par) (hC : C < 10) (hp : p < C) (hi : ifc p = 0) (b : Int32) :
    hi_ok (C + 1) (upd ifc C b) (upd anc C (((1 : Int32) <<< (nI C &&& 31)) ||| anc p)) (upd chn C (((1 : Int32) <<< (nI C &&& 31)) ||| chn p)) (upd par C (nI p)) := by
  have b1 : ∀ (s : Int32) i, bt (((1 : Int32) <<< (nI C &&& 31)) ||| s) i = true ↔ i = C ∨ bt s i = true := fun s i => by rw [b_or, bq_1 (by omega), Bool.or_eq_true, decide_eq_true_eq]
  obtain ⟨p1, p2, p3, p4, p5, _⟩ := h.2 p hp
  refine ⟨by omega, fun c hc => ?_⟩
  by_cases e : c = C
  · subst e
    rw [pk_us, pk_us, pk_us]
    refine ⟨(b1 _ c).mpr (Or.inl rfl), fun i z => ?_, fun i j z w => ?_, fun i z => ?_, fun i z w => ?_, Or.inr ⟨p, hp, rfl, by rw [pk_un (by omega)]; exact hi, fun i => ?_⟩⟩
    · rcases (b1 _ i).mp z with y | y
      · omega
      · have := p2 i y; omega
    · rcases (b1 _ i).mp z with y | y
      · subst y; rw [pk_us] at w; exact w
      · have := p2 i y
        rw [pk_un (by omega)] at w
        exact (b1 _ j).mpr (Or.inr (p3 i j y w))
    · rcases (b1 _ i).mp z with y | y
      · exact (b1 _ i).mpr (Or.inl y)
      · exact (b1 _ i).mpr (Or.inr (p4 i y))
    · rcases (b1 _ i).mp z with y | y
      · exact absurd ((b1 _ i).mpr (Or.inl y)) w
      · have := p2 i y
        rw [pk_un (by omega)]
        exact p5 i y (fun x => w ((b1 _ i).mpr (Or.inr x)))
    · rw [pk_un (by omega)]; exact b1 _ i
  · obtain ⟨q1, q2, q3, q4, q5, q6⟩ := h.2 c (by omega)
    rw [pk_un e, pk_un e, pk_un e]
    refine ⟨q1, q2, fun i j z w => ?_, q4, fun i z w => ?_, ?_⟩
    · have := q2 i z
      rw [pk_un (by omega)] at w
      exact q3 i j z w
    · have := q2 i z
      rw [pk_un (by omega)]
      exact q5 i z w
    · rcases q6 with z | ⟨p, hp, z1, z2, z3⟩
      · exact Or.inl z
      · refine Or.inr ⟨p, hp, z1, by rw [pk_un (by omega)]; exact z2, ?_⟩
        rw [pk_un (by omega)]; exact z3
theorem hi_3 {C i : Nat} {ifc anc chn par : Nat → Int32} (h : hi_ok (C + 1) ifc anc chn par) (hp : ip_p (C + 1) ifc par) (hi : i < C) (hf : ¬ ifc i = 0) : hi_ok (C + 1) ifc (upd anc C (anc C ||| anc i)) chn par := by
  have b1 : ∀ j, bt (anc C ||| anc i) j = true ↔ bt (anc C) j = true ∨ bt (anc i) j = true := fun j => by rw [b_or, Bool.or_eq_true]
  obtain ⟨p1, p2, p3, p4, p5, p6⟩ := h.2 i (by omega)
  refine ⟨h.1, fun c hc => ?_⟩
  obtain ⟨q1, q2, q3, q4, q5, q6⟩ := h.2 c hc
  by_cases e : c = C
  · subst e
    rw [pk_us]
    refine ⟨(b1 c).mpr (Or.inl q1), fun j z => ?_, fun j l z w => ?_, fun j z => (b1 j).mpr (Or.inl (q4 j z)), fun j z w => ?_, q6⟩
    · rcases (b1 j).mp z with y | y
      · exact q2 j y
      · have := p2 j y; omega
    · by_cases ec : j = c
      · subst ec; rw [pk_us] at w; exact w
      · rw [pk_un ec] at w
        rcases (b1 j).mp z with y | y
        · exact (b1 l).mpr (Or.inl (q3 j l y w))
        · exact (b1 l).mpr (Or.inr (p3 j l y w))
    · rcases (b1 j).mp z with y | y
      · exact q5 j y w
      · by_cases ei : bt (chn i) j = true
        · rcases p6 with ⟨_, r⟩ | ⟨p, hpi, r, _⟩
          · have := (r j).mp ei
            subst this; exact hf
          · rw [hp i (by omega) hf] at r
            exact absurd r.symm (oI_n (by have := h.1; omega))
        · exact p5 j y ei
  · rw [pk_un e]
    refine ⟨q1, q2, fun j l z w => ?_, q4, q5, q6⟩
    have := q2 j z
    rw [pk_un (by omega)] at w
    exact q3 j l z w
theorem ow_two : ∀ i, i < 10 → ((1 : Int32) <<< (nI i &&& 31)) &&& (((1 : Int32) <<< (nI i &&& 31)) - 1) = 0 := by decide +kernel
theorem ow_thr : ∀ i, i < 10 → ∀ j, j < 10 → i ≠ j → ¬ (((1 : Int32) <<< (nI i &&& 31)) ||| ((1 : Int32) <<< (nI j &&& 31))) &&& ((((1 : Int32) <<< (nI i &&& 31)) ||| ((1 : Int32) <<< (nI j &&& 31))) - 1) = 0 := by decide +kernel
/-- two or not; a further one -/
theorem ow_e {own many : Int32} (h : ow_p own many) : (own &&& (own - 1)) = 0 ↔ ¬ many = 2 := by
  rcases h with ⟨e1, e2⟩ | ⟨i, hi, e1, e2⟩ | ⟨i, j, hi, hj, ne, e1, e2⟩
  · rw [e1, e2]; decide
  · rw [e1, e2]; exact ⟨fun _ => by decide, fun _ => ow_two i hi⟩
  · rw [e1, e2]; exact ⟨fun z => absurd z (ow_thr i hi j hj ne), fun z => absurd rfl z⟩
theorem ow_n {own many : Int32} (h : ow_p own many) (n2 : ¬ many = 2) {i : Nat} (hi : i < 10) (nb : ¬ bt own i = true) : ow_p (own ||| ((1 : Int32) <<< (nI i &&& 31))) (many + 1) := by
  rcases h with ⟨e1, e2⟩ | ⟨j, hj, e1, e2⟩ | ⟨j, k, hj, hk, ne, e1, e2⟩
  · refine Or.inr (Or.inl ⟨i, hi, by rw [e1]; rfl, ?_⟩)
    rw [e2]
    apply b_ext
    intro k _
    rw [b_or, b_0, Bool.false_or]
  · refine Or.inr (Or.inr ⟨j, i, hj, hi, fun z => nb ?_, by rw [e1]; rfl, by rw [e2]⟩)
    subst z
    rw [e2, bq_1 (by omega)]
    exact decide_eq_true rfl
  · exact absurd e1 n2
