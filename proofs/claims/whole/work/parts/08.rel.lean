/-! ===== the told program, as both sides hold it ===== -/
/-- what c finds in the told program -/
def fo_v (M : Nat) (anc chn hom nam : Nat → Int32) (c : Nat) (n : Int32) : Option Nat := fd_v M anc chn hom (fun m => decide (nam m = n)) c
/-- own interfaces: none, one or two -/
def ow_p (own many : Int32) : Prop :=
  (many = 0 ∧ own = 0) ∨ (∃ i, i < 10 ∧ many = 1 ∧ own = (1 : Int32) <<< (nI i &&& 31)) ∨
  (∃ i j, i < 10 ∧ j < 10 ∧ i ≠ j ∧ many = 2 ∧ own = ((1 : Int32) <<< (nI i &&& 31)) ||| ((1 : Int32) <<< (nI j &&& 31)))
def me_p (ifc hom xform xname xlen yabs yname ylen : Nat → Int32) (m : Nat) : Prop :=
  (∃ n, n < 10 ∧ xname m = nI n ∧ yname m = nI n) ∧ (∃ l, l ≤ 6 ∧ xlen m = nI l ∧ ylen m = nI l) ∧
  ((yabs m = 0 ∧ xform m = 2) ∨ (¬ yabs m = 0 ∧ xform m = 1)) ∧ (¬ ifc (hq_t (hom m)) = 0 → ¬ yabs m = 0)
def ce_p (m k : Nat) (xop xcl xnu xsm xsl xca yop yfi yse : Int32) : Prop :=
  ∃ o, o < 6 ∧ xop = nI o ∧ yop = nI o ∧
    ((1 ≤ o ∧ o ≤ 4) → ∃ c, c < 10 ∧ xcl = nI c ∧ yfi = nI c) ∧ (¬ (1 ≤ o ∧ o ≤ 4) → xcl = -1) ∧
    ((o = 2 ∨ o = 3) → ∃ n, n < 10 ∧ xnu = nI n ∧ yse = nI n) ∧ (o = 0 → xnu = yse) ∧ (¬ (o = 0 ∨ o = 2 ∨ o = 3) → xnu = 0) ∧
    xsm = nI m ∧ xsl = nI k ∧ xca = -1
def tp_p (C M R : Nat) (ifc anc own chn par many hom rk rc rn xform xname xlen yabs yname ylen xop xcl xnu xsm xsl xca yop yfi yse : Nat → Int32) : Prop :=
  hi_ok C ifc anc chn par ∧ (∀ c, c < C → ow_p (own c) (many c)) ∧ mh_ok C M hom ∧
  (∀ m, m < M → me_p ifc hom xform xname xlen yabs yname ylen m) ∧
  (∀ a b, a < M → b < M → yname a = yname b → hq_t (hom a) = hq_t (hom b) → a = b) ∧
  (∀ m k, m < M → k < hq_t (ylen m) → ce_p m k (xop (24 * m + k)) (xcl (24 * m + k)) (xnu (24 * m + k)) (xsm (24 * m + k)) (xsl (24 * m + k)) (xca (24 * m + k)) (yop (6 * m + k)) (yfi (6 * m + k)) (yse (6 * m + k))) ∧
  R ≤ 4 ∧ (∀ r, r < R → rk r = 0 ∨ rk r = 1)
/-- the trace -/
def tr_p (t : Nat) (tm tl vm vl : Nat → Int32) : Prop := t ≤ 8 ∧ ∀ k, k < t → tm k = vm (t - 1 - k) ∧ tl k = vl (t - 1 - k)
/-! ===== what is wrong with an instruction (pure) ===== -/
def fl_v (C : Nat) (ifc yabs : Nat → Int32) (F : Nat → Int32 → Option Nat) (o c n : Int32) : Int32 :=
  if o = 0 ∨ o = 5 then 0 else if C ≤ hq_t c then 1 else if o = 1 then (if ifc (hq_t c) = 0 then 0 else 2) else if o = 4 then 0 else
    match F (hq_t c) n with
    | none => 3
    | some m => if o = 3 ∧ ¬ yabs m = 0 then 3 else 0
/-- a told line is wrong -/
def fb_p (C M : Nat) (ifc anc chn hom yabs yname ylen yop yfi yse : Nat → Int32) (k : Nat) : Bool :=
  decide (k % 6 < hq_t (ylen (k / 6))) && decide (¬ fl_v C ifc yabs (fo_v M anc chn hom yname) (yop k) (yfi k) (yse k) = 0)
/-- the first wrong one -/
def ff_v (C M : Nat) (ifc anc chn hom yabs yname ylen yop yfi yse : Nat → Int32) : Option Nat := sc_f (fb_p C M ifc anc chn hom yabs yname ylen yop yfi yse) (6 * M)
/-- nothing is wrong: what each line then has -/
theorem ff_n {C M : Nat} {ifc anc chn hom yabs yname ylen yop yfi yse : Nat → Int32} (h : ff_v C M ifc anc chn hom yabs yname ylen yop yfi yse = none) {m k : Nat} (hm : m < M) (h6 : k < 6) (hk : k < hq_t (ylen m)) :
    fl_v C ifc yabs (fo_v M anc chn hom yname) (yop (6 * m + k)) (yfi (6 * m + k)) (yse (6 * m + k)) = 0 := by
  have z := sc_fn h (6 * m + k) (by omega)
  have e1 : (6 * m + k) / 6 = m := by omega
  have e2 : (6 * m + k) % 6 = k := by omega
  unfold fb_p at z
  rw [e1, e2, bb_a, decide_eq_true_eq, decide_eq_true_eq] at z
  exact Classical.byContradiction (fun y => z ⟨hk, y⟩)
theorem fl_c {C : Nat} {ifc yabs : Nat → Int32} {F : Nat → Int32 → Option Nat} {o c n : Int32} (h : fl_v C ifc yabs F o c n = 0) (ho : ¬ (o = 0 ∨ o = 5)) : hq_t c < C := by
  unfold fl_v at h
  rw [if_neg ho] at h
  by_cases e : C ≤ hq_t c
  · rw [if_pos e] at h; exact absurd h (by decide)
  · omega
theorem fl_f {C : Nat} {ifc yabs : Nat → Int32} {F : Nat → Int32 → Option Nat} {o c n : Int32} (h : fl_v C ifc yabs F o c n = 0) (ho : o = 2 ∨ o = 3) : ∃ m, F (hq_t c) n = some m ∧ (o = 3 → yabs m = 0) := by
  have h0 : ¬ (o = 0 ∨ o = 5) := by rcases ho with e | e <;> subst e <;> decide
  have h1 : ¬ o = 1 := by rcases ho with e | e <;> subst e <;> decide
  have h4 : ¬ o = 4 := by rcases ho with e | e <;> subst e <;> decide
  have hc := fl_c h h0
  unfold fl_v at h
  rw [if_neg h0, if_neg (by omega), if_neg h1, if_neg h4] at h
  cases e : F (hq_t c) n with
  | none =>
    rw [e] at h
    have h' : (3 : Int32) = 0 := h
    exact absurd h' (by decide)
  | some m =>
    rw [e] at h
    refine ⟨m, rfl, fun o3 => Classical.byContradiction (fun z => ?_)⟩
    have : (if o = 3 ∧ ¬ yabs m = 0 then (3 : Int32) else 0) = 0 := h
    rw [if_pos ⟨o3, z⟩] at this
    exact absurd this (by decide)
/-! ===== what is inlined (pure) ===== -/
/-- t is the one target of the call at line k of m, and short -/
def it_p (C M : Nat) (anc chn hom yabs yname ylen yop yfi yse : Nat → Int32) (D L : Int32) (m k t : Nat) : Prop :=
  bt L m = true ∧ k < hq_t (ylen m) ∧ t < M ∧ t ≠ m ∧ yabs t = 0 ∧ hq_t (ylen t) ≤ 3 ∧ (∀ i, i < hq_t (ylen t) → yop (6 * t + i) = 0 ∨ yop (6 * t + i) = 5) ∧
  ((yop (6 * m + k) = 3 ∧ fo_v M anc chn hom yname (hq_t (yfi (6 * m + k))) (yse (6 * m + k)) = some t) ∨
   (yop (6 * m + k) = 2 ∧ (∃ d, d < C ∧ bt D d = true ∧ bt (anc d) (hq_t (yfi (6 * m + k))) = true) ∧
    ∀ d, d < C → bt D d = true → bt (anc d) (hq_t (yfi (6 * m + k))) = true → fo_v M anc chn hom yname d (yse (6 * m + k)) = some t))
theorem it_u {C M : Nat} {anc chn hom yabs yname ylen yop yfi yse : Nat → Int32} {D L : Int32} {m k t s : Nat} (h : it_p C M anc chn hom yabs yname ylen yop yfi yse D L m k t) (g : it_p C M anc chn hom yabs yname ylen yop yfi yse D L m k s) : t = s := by
  rcases h.2.2.2.2.2.2.2 with ⟨o, e⟩ | ⟨o, ⟨d, d1, d2, d3⟩, e⟩
  · rcases g.2.2.2.2.2.2.2 with ⟨o', e'⟩ | ⟨o', _⟩
    · rw [e] at e'; simpa using e'
    · rw [o] at o'; exact absurd o' (by decide)
  · rcases g.2.2.2.2.2.2.2 with ⟨o', e'⟩ | ⟨o', _, e'⟩
    · rw [o] at o'; exact absurd o' (by decide)
    · have x := e d d1 d2 d3
      rw [e' d d1 d2 d3] at x
      simpa using x.symm
/-- the one target, short or not -/
def tg_p (C : Nat) (anc : Nat → Int32) (D : Int32) (F : Nat → Int32 → Option Nat) (o c n : Int32) (t : Nat) : Prop :=
  (o = 3 ∧ F (hq_t c) n = some t) ∨
   (o = 2 ∧ (∃ d, d < C ∧ bt D d = true ∧ bt (anc d) (hq_t c) = true) ∧ ∀ d, d < C → bt D d = true → bt (anc d) (hq_t c) = true → F d n = some t)
def sh_p (ylen yop : Nat → Int32) (t : Nat) : Prop := hq_t (ylen t) ≤ 3 ∧ ∀ i, i < hq_t (ylen t) → yop (6 * t + i) = 0 ∨ yop (6 * t + i) = 5
theorem it_i {C M : Nat} {anc chn hom yabs yname ylen yop yfi yse : Nat → Int32} {D L : Int32} {m k t : Nat} :
    it_p C M anc chn hom yabs yname ylen yop yfi yse D L m k t ↔ bt L m = true ∧ k < hq_t (ylen m) ∧ t < M ∧ t ≠ m ∧ yabs t = 0 ∧ sh_p ylen yop t ∧
      tg_p C anc D (fo_v M anc chn hom yname) (yop (6 * m + k)) (yfi (6 * m + k)) (yse (6 * m + k)) t := by
  constructor
  · rintro ⟨h1, h2, h3, h4, h5, h6, h7, h8⟩; exact ⟨h1, h2, h3, h4, h5, ⟨h6, h7⟩, h8⟩
  · rintro ⟨h1, h2, h3, h4, h5, ⟨h6, h7⟩, h8⟩; exact ⟨h1, h2, h3, h4, h5, h6, h7, h8⟩
def il_p (C M : Nat) (anc chn hom yabs yname ylen yop yfi yse : Nat → Int32) (D L : Int32) (m k : Nat) (v : Int32) : Prop :=
  (v = -1 ∧ ∀ t, ¬ it_p C M anc chn hom yabs yname ylen yop yfi yse D L m k t) ∨ ∃ t, v = nI t ∧ it_p C M anc chn hom yabs yname ylen yop yfi yse D L m k t
theorem tp_fr {C M R : Nat} {ifc anc own chn par many hom rk rc rn xform xname xlen yabs yname ylen xop xcl xnu xsm xsl xca yop yfi yse xform' xname' xlen' xop' xcl' xnu' xsm' xsl' xca' : Nat → Int32}
    (h : tp_p C M R ifc anc own chn par many hom rk rc rn xform xname xlen yabs yname ylen xop xcl xnu xsm xsl xca yop yfi yse)
    (f1 : ∀ j, j < 30 → xform' j = xform j) (f2 : ∀ j, j < 30 → xname' j = xname j) (f3 : ∀ j, j < 30 → xlen' j = xlen j)
    (f4 : ∀ j, j < 720 → xop' j = xop j) (f5 : ∀ j, j < 720 → xcl' j = xcl j) (f6 : ∀ j, j < 720 → xnu' j = xnu j)
    (f7 : ∀ j, j < 720 → xsm' j = xsm j) (f8 : ∀ j, j < 720 → xsl' j = xsl j) (f9 : ∀ j, j < 720 → xca' j = xca j) :
    tp_p C M R ifc anc own chn par many hom rk rc rn xform' xname' xlen' yabs yname ylen xop' xcl' xnu' xsm' xsl' xca' yop yfi yse := by
  obtain ⟨h1, h2, h3, h4, h5, h6, h7, h8⟩ := h
  have hM := h3.1
  refine ⟨h1, h2, h3, fun m hm => ?_, h5, fun m k hm hk => ?_, h7, h8⟩
  · have z := h4 m hm
    unfold me_p at z ⊢
    rw [f1 m (by omega), f2 m (by omega), f3 m (by omega)]
    exact z
  · obtain ⟨_, ⟨l, l6, _, e⟩, _⟩ := h4 m hm
    have hl : hq_t (ylen m) = l := by rw [e]; exact hq_e (by omega)
    have z := h6 m k hm hk
    rw [f4 _ (by omega), f5 _ (by omega), f6 _ (by omega), f7 _ (by omega), f8 _ (by omega), f9 _ (by omega)]
    exact z
/-! ===== where things lie in the new program ===== -/
theorem il_u {C M : Nat} {anc chn hom yabs yname ylen yop yfi yse : Nat → Int32} {D L : Int32} {m k : Nat} {v w : Int32} (h : il_p C M anc chn hom yabs yname ylen yop yfi yse D L m k v)
    (g : il_p C M anc chn hom yabs yname ylen yop yfi yse D L m k w) : v = w := by
  rcases h with ⟨e, n⟩ | ⟨t, e, i⟩
  · rcases g with ⟨e', n'⟩ | ⟨t', e', i'⟩
    · rw [e, e']
    · exact absurd i' (n t')
  · rcases g with ⟨e', n'⟩ | ⟨t', e', i'⟩
    · exact absurd i (n' t)
    · rw [e, e', it_u i i']
noncomputable def il_v (C M : Nat) (anc chn hom yabs yname ylen yop yfi yse : Nat → Int32) (D L : Int32) (m k : Nat) : Int32 :=
  @dite Int32 (∃ t, it_p C M anc chn hom yabs yname ylen yop yfi yse D L m k t) (Classical.propDecidable _) (fun h => nI (Exists.choose h)) (fun _ => -1)
theorem il_e {C M : Nat} {anc chn hom yabs yname ylen yop yfi yse : Nat → Int32} {D L : Int32} (m k : Nat) : il_p C M anc chn hom yabs yname ylen yop yfi yse D L m k (il_v C M anc chn hom yabs yname ylen yop yfi yse D L m k) := by
  by_cases h : ∃ t, it_p C M anc chn hom yabs yname ylen yop yfi yse D L m k t
  · refine Or.inr ⟨Exists.choose h, ?_, Exists.choose_spec h⟩
    unfold il_v
    rw [dif_pos h]
  · refine Or.inl ⟨?_, fun t z => h ⟨t, z⟩⟩
    unfold il_v
    rw [dif_neg h]
noncomputable def il_f (C M : Nat) (anc chn hom yabs yname ylen yop yfi yse : Nat → Int32) (D L : Int32) (j : Nat) : Int32 := il_v C M anc chn hom yabs yname ylen yop yfi yse D L (j / 6) (j % 6)
def gy_n (inl ylen : Nat → Int32) (m x : Nat) : Nat := if x < hq_t (ylen m) ∧ ¬ inl (6 * m + x) < 0 then 1 + hq_t (ylen (hq_t (inl (6 * m + x)))) else 1
def po_n (inl ylen : Nat → Int32) (m x : Nat) : Nat := ps_n (gy_n inl ylen m) x
/-- the cells of line x of m in the new program; nv: the number that a line which isn't INLINED has there -/
def lc_p (inl ylen xop xcl xnu xsm xsl xca : Nat → Int32) (nv : Nat → Nat → Int32) (m x : Nat) : Prop :=
  (inl (6 * m + x) < 0 → xop (24 * (30 + m) + po_n inl ylen m x) = xop (24 * m + x) ∧ xcl (24 * (30 + m) + po_n inl ylen m x) = xcl (24 * m + x) ∧
    xnu (24 * (30 + m) + po_n inl ylen m x) = nv m x) ∧
  (¬ inl (6 * m + x) < 0 → xop (24 * (30 + m) + po_n inl ylen m x) = 6 ∧ xcl (24 * (30 + m) + po_n inl ylen m x) = (if xop (24 * m + x) = 3 then -1 else xcl (24 * m + x)) ∧
    xnu (24 * (30 + m) + po_n inl ylen m x) = 0 ∧
    ∀ i, i < hq_t (ylen (hq_t (inl (6 * m + x)))) →
      xop (24 * (30 + m) + po_n inl ylen m x + 1 + i) = xop (24 * hq_t (inl (6 * m + x)) + i) ∧
      xcl (24 * (30 + m) + po_n inl ylen m x + 1 + i) = -1 ∧
      xnu (24 * (30 + m) + po_n inl ylen m x + 1 + i) = xnu (24 * hq_t (inl (6 * m + x)) + i) ∧
      xsm (24 * (30 + m) + po_n inl ylen m x + 1 + i) = inl (6 * m + x) ∧
      xsl (24 * (30 + m) + po_n inl ylen m x + 1 + i) = nI i ∧
      xca (24 * (30 + m) + po_n inl ylen m x + 1 + i) = nI x) ∧
  xsm (24 * (30 + m) + po_n inl ylen m x) = nI m ∧ xsl (24 * (30 + m) + po_n inl ylen m x) = nI x ∧ xca (24 * (30 + m) + po_n inl ylen m x) = -1
