theorem nI_d6 {i : Nat} (h : i < 10000) : nI i / 6 = nI (i / 6) := pk_div (d := 6) (by omega) (by decide) (by decide)
theorem nI_r6 {i : Nat} (h : i < 10000) : nI i - nI i / 6 * 6 = nI (i % 6) := pk_rem (d := 6) (by omega) (by decide) (by decide)
theorem nI_m6 (i : Nat) : 6 * nI i = nI (6 * i) := pk_mul 6 i
section
variable {y_classes y_methods y_rules y_place y_named y_made y_namedMethods y_live y_built y_depth y_steps y_outs y_ending : Int32} {y_isInterface y_isAbstract y_parent y_ancestors y_own y_many y_home y_name y_length y_op y_first y_second y_ruleKind y_ruleClasses y_ruleNames y_inlined y_number y_newName y_family y_vMethod y_vLine y_vHeld y_put : Nat → Int32} {chn xform xname xlen xop xcl xnu xsm xsl xca : Nat → Int32} {C M R : Nat}
theorem ty_un (T : tp_p C M R y_isInterface y_ancestors y_own chn y_parent y_many y_home y_ruleKind y_ruleClasses y_ruleNames xform xname xlen y_isAbstract y_name y_length xop xcl xnu xsm xsl xca y_op y_first y_second) (n : Int32) : un_ok M y_home (fun m => decide (y_name m = n)) := fun a b ha hb qa qb eh =>
  T.2.2.2.2.1 a b ha hb ((of_decide_eq_true qa).trans (of_decide_eq_true qb).symm) eh
theorem ty_len (T : tp_p C M R y_isInterface y_ancestors y_own chn y_parent y_many y_home y_ruleKind y_ruleClasses y_ruleNames xform xname xlen y_isAbstract y_name y_length xop xcl xnu xsm xsl xca y_op y_first y_second) {m : Nat} (hm : m < M) : y_length m = nI (hq_t (y_length m)) ∧ hq_t (y_length m) ≤ 6 := by
  obtain ⟨_, ⟨l, l6, e1, e2⟩, _⟩ := T.2.2.2.1 m hm
  rw [e2, hq_e (by omega)]
  exact ⟨rfl, l6⟩
theorem yo_v (T : tp_p C M R y_isInterface y_ancestors y_own chn y_parent y_many y_home y_ruleKind y_ruleClasses y_ruleNames xform xname xlen y_isAbstract y_name y_length xop xcl xnu xsm xsl xca y_op y_first y_second) (hC : y_classes = nI C) (hM : y_methods = nI M) {post : Int32 → Prop} {c : Nat} {n : Int32} (hc : c < C) (hp : post (oI (fo_v M y_ancestors chn y_home y_name c n))) :
    wpY_finds post (y_classes, y_methods, y_rules, y_place, y_named, y_made, y_namedMethods, y_live, y_built, y_depth, y_steps, y_outs, y_ending, y_isInterface, y_isAbstract, y_parent, y_ancestors, y_own, y_many, y_home, y_name, y_length, y_op, y_first, y_second, y_ruleKind, y_ruleClasses, y_ruleNames, y_inlined, y_number, y_newName, y_family, y_vMethod, y_vLine, y_vHeld, y_put) (nI c) n := yf_v T.1 T.2.2.1 (ty_un T n) hc hC hM hp
theorem yx_1 {post : Int32 → SY → Prop} {J : Int32 → Prop} {i : Nat} (hi : i < 180) {v : Int32}
    (h0 : v = 0 → J (nI (i + 1))) (h1 : ¬ v = 0 → post v (y_classes, y_methods, y_rules, nI (8 * (i / 6) + i % 6), y_named, y_made, y_namedMethods, y_live, y_built, y_depth, y_steps, y_outs, y_ending, y_isInterface, y_isAbstract, y_parent, y_ancestors, y_own, y_many, y_home, y_name, y_length, y_op, y_first, y_second, y_ruleKind, y_ruleClasses, y_ruleNames, y_inlined, y_number, y_newName, y_family, y_vMethod, y_vLine, y_vHeld, y_put)) : wY_examine_138 post J (nI i) v y_classes y_methods y_rules y_place y_named y_made y_namedMethods y_live y_built y_depth y_steps y_outs y_ending y_isInterface y_isAbstract y_parent y_ancestors y_own y_many y_home y_name y_length y_op y_first y_second y_ruleKind y_ruleClasses y_ruleNames y_inlined y_number y_newName y_family y_vMethod y_vLine y_vHeld y_put := by
  unfold wY_examine_138
  refine br_c (fun z => nm_r (nI_1 i) (h0 z)) (fun z => ⟨by decide, by decide, ?_⟩)
  rw [nI_r6 (by omega), nI_d6 (by omega)]
  refine nm_r (e' := nI (8 * (i / 6) + i % 6)) ?_ (h1 z)
  show nI (i / 6) * nI 8 + nI (i % 6) = _
  rw [pk_mul, nI_add, Nat.mul_comm]
theorem yx_2 (T : tp_p C M R y_isInterface y_ancestors y_own chn y_parent y_many y_home y_ruleKind y_ruleClasses y_ruleNames xform xname xlen y_isAbstract y_name y_length xop xcl xnu xsm xsl xca y_op y_first y_second) (hC : y_classes = nI C) (hM : y_methods = nI M) {post : Int32 → SY → Prop} {J : Int32 → Prop} {i c n o : Nat} (hi : i < 180) (hc : c < C) (o23 : o = 2 ∨ o = 3)
    (es : y_second i = nI n)
    (h0 : fl_v C y_isInterface y_isAbstract (fo_v M y_ancestors chn y_home y_name) (nI o) (nI c) (nI n) = 0 → J (nI (i + 1))) (h1 : ¬ fl_v C y_isInterface y_isAbstract (fo_v M y_ancestors chn y_home y_name) (nI o) (nI c) (nI n) = 0 → post (fl_v C y_isInterface y_isAbstract (fo_v M y_ancestors chn y_home y_name) (nI o) (nI c) (nI n)) (y_classes, y_methods, y_rules, nI (8 * (i / 6) + i % 6), y_named, y_made, y_namedMethods, y_live, y_built, y_depth, y_steps, y_outs, y_ending, y_isInterface, y_isAbstract, y_parent, y_ancestors, y_own, y_many, y_home, y_name, y_length, y_op, y_first, y_second, y_ruleKind, y_ruleClasses, y_ruleNames, y_inlined, y_number, y_newName, y_family, y_vMethod, y_vLine, y_vHeld, y_put)) :
    wY_examine_102 post J (nI i) (nI o) (nI c) 0 y_classes y_methods y_rules y_place y_named y_made y_namedMethods y_live y_built y_depth y_steps y_outs y_ending y_isInterface y_isAbstract y_parent y_ancestors y_own y_many y_home y_name y_length y_op y_first y_second y_ruleKind y_ruleClasses y_ruleNames y_inlined y_number y_newName y_family y_vMethod y_vLine y_vHeld y_put := by
  have h30 := T.2.2.1.1
  have h10 := T.1.1
  have o23' : nI o = 2 ∨ nI o = 3 := by
    rcases o23 with z | z
    · subst z; exact Or.inl rfl
    · subst z; exact Or.inr rfl
  have hce : hq_t (nI c) = c := hq_e (by omega)
  have ncl : ¬ C ≤ hq_t (nI c) := by rw [hce]; omega
  unfold wY_examine_102
  refine ⟨vp_in_nI hi (by decide), ?_⟩
  rw [nI_c (by omega), es]
  refine yo_v T hC hM hc ?_
  cases e : fo_v M y_ancestors chn y_home y_name c (nI n) with
  | none =>
    rw [fl_n o23' ncl (by rw [hce]; exact e)] at h0 h1
    refine br_t (by decide) ?_
    unfold wY_examine_135
    exact yx_1 hi h0 h1
  | some t =>
    have tM := (fd_s T.1 hc e).1
    rw [fl_m o23' ncl (by rw [hce]; exact e)] at h0 h1
    refine br_f (nI_pos (by omega)) (br_c (fun z => ⟨vp_in_nI (by omega) (by decide), ?_⟩) (fun z => ?_))
    · rw [oI_s, nI_c (by omega)]
      refine br_c (fun a => ?_) (fun a => ?_)
      · rw [if_neg (fun q => q.2 a)] at h0 h1; exact yx_1 hi h0 h1
      · rw [if_pos ⟨z, a⟩] at h0 h1
        unfold wY_examine_135
        exact yx_1 hi h0 h1
    · rw [if_neg (fun q => z q.1)] at h0 h1
      exact yx_1 hi h0 h1
theorem fb_y {m k : Nat} (h6 : k < 6) : fb_p C M y_isInterface y_ancestors chn y_home y_isAbstract y_name y_length y_op y_first y_second (6 * m + k) = true ↔ k < hq_t (y_length m) ∧ ¬ fl_v C y_isInterface y_isAbstract (fo_v M y_ancestors chn y_home y_name) (y_op (6 * m + k)) (y_first (6 * m + k)) (y_second (6 * m + k)) = 0 := by
  have e1 : (6 * m + k) / 6 = m := by omega
  have e2 : (6 * m + k) % 6 = k := by omega
  unfold fb_p
  rw [e1, e2, bb_a, decide_eq_true_eq, decide_eq_true_eq]
theorem yx_v (T : tp_p C M R y_isInterface y_ancestors y_own chn y_parent y_many y_home y_ruleKind y_ruleClasses y_ruleNames xform xname xlen y_isAbstract y_name y_length xop xcl xnu xsm xsl xca y_op y_first y_second) (hC : y_classes = nI C) (hM : y_methods = nI M) {post : Int32 → SY → Prop} (h0 : ff_v C M y_isInterface y_ancestors chn y_home y_isAbstract y_name y_length y_op y_first y_second = none → post 0 (y_classes, y_methods, y_rules, y_place, y_named, y_made, y_namedMethods, y_live, y_built, y_depth, y_steps, y_outs, y_ending, y_isInterface, y_isAbstract, y_parent, y_ancestors, y_own, y_many, y_home, y_name, y_length, y_op, y_first, y_second, y_ruleKind, y_ruleClasses, y_ruleNames, y_inlined, y_number, y_newName, y_family, y_vMethod, y_vLine, y_vHeld, y_put))
    (h1 : ∀ k, ff_v C M y_isInterface y_ancestors chn y_home y_isAbstract y_name y_length y_op y_first y_second = some k → post (fl_v C y_isInterface y_isAbstract (fo_v M y_ancestors chn y_home y_name) (y_op k) (y_first k) (y_second k)) (y_classes, y_methods, y_rules, nI (8 * (k / 6) + k % 6), y_named, y_made, y_namedMethods, y_live, y_built, y_depth, y_steps, y_outs, y_ending, y_isInterface, y_isAbstract, y_parent, y_ancestors, y_own, y_many, y_home, y_name, y_length, y_op, y_first, y_second, y_ruleKind, y_ruleClasses, y_ruleNames, y_inlined, y_number, y_newName, y_family, y_vMethod, y_vLine, y_vHeld, y_put)) : wpY_examine post (y_classes, y_methods, y_rules, y_place, y_named, y_made, y_namedMethods, y_live, y_built, y_depth, y_steps, y_outs, y_ending, y_isInterface, y_isAbstract, y_parent, y_ancestors, y_own, y_many, y_home, y_name, y_length, y_op, y_first, y_second, y_ruleKind, y_ruleClasses, y_ruleNames, y_inlined, y_number, y_newName, y_family, y_vMethod, y_vLine, y_vHeld, y_put) := by
  have h30 := T.2.2.1.1
  have h10 := T.1.1
  have lo : ∀ q i f, i + q = 6 * M → q < f → (∀ j, j < i → ¬ fb_p C M y_isInterface y_ancestors chn y_home y_isAbstract y_name y_length y_op y_first y_second j = true) → wY_examine_2 post y_classes y_methods y_rules y_place y_named y_made y_namedMethods y_live y_built y_depth y_steps y_outs y_ending y_isInterface y_isAbstract y_parent y_ancestors y_own y_many y_home y_name y_length y_op y_first y_second y_ruleKind y_ruleClasses y_ruleNames y_inlined y_number y_newName y_family y_vMethod y_vLine y_vHeld y_put f (nI i) := by
    intro q
    induction q with
    | zero =>
      intro i f e hf no
      obtain ⟨f, rfl⟩ : ∃ q, f = q + 1 := ⟨f - 1, by omega⟩
      rw [wY_examine_2]
      refine br_t (by rw [hM, nI_m6]; exact nI_le (by omega) (by omega)) (h0 ?_)
      exact sc_fN (fun j hj => no j (by omega))
    | succ q ih =>
      intro i f e hf no
      obtain ⟨f, rfl⟩ : ∃ q, f = q + 1 := ⟨f - 1, by omega⟩
      obtain ⟨m, k, k6, rfl⟩ : ∃ m k, k < 6 ∧ i = 6 * m + k := ⟨i / 6, i % 6, by omega, by omega⟩
      have hm : m < M := by omega
      have e1 : (6 * m + k) / 6 = m := by omega
      have e2 : (6 * m + k) % 6 = k := by omega
      obtain ⟨l1, l6⟩ := ty_len T hm
      have nx : ¬ fb_p C M y_isInterface y_ancestors chn y_home y_isAbstract y_name y_length y_op y_first y_second (6 * m + k) = true → wY_examine_2 post y_classes y_methods y_rules y_place y_named y_made y_namedMethods y_live y_built y_depth y_steps y_outs y_ending y_isInterface y_isAbstract y_parent y_ancestors y_own y_many y_home y_name y_length y_op y_first y_second y_ruleKind y_ruleClasses y_ruleNames y_inlined y_number y_newName y_family y_vMethod y_vLine y_vHeld y_put f (nI (6 * m + k + 1)) := fun y => ih _ f (by omega) (by omega) (fun j hj => by
        rcases Nat.lt_or_ge j (6 * m + k) with z | z
        · exact no j z
        · have : j = 6 * m + k := by omega
          subst this; exact y)
      have hit : k < hq_t (y_length m) → ¬ fl_v C y_isInterface y_isAbstract (fo_v M y_ancestors chn y_home y_name) (y_op (6 * m + k)) (y_first (6 * m + k)) (y_second (6 * m + k)) = 0 →
          post (fl_v C y_isInterface y_isAbstract (fo_v M y_ancestors chn y_home y_name) (y_op (6 * m + k)) (y_first (6 * m + k)) (y_second (6 * m + k))) (y_classes, y_methods, y_rules, nI (8 * ((6 * m + k) / 6) + (6 * m + k) % 6), y_named, y_made, y_namedMethods, y_live, y_built, y_depth, y_steps, y_outs, y_ending, y_isInterface, y_isAbstract, y_parent, y_ancestors, y_own, y_many, y_home, y_name, y_length, y_op, y_first, y_second, y_ruleKind, y_ruleClasses, y_ruleNames, y_inlined, y_number, y_newName, y_family, y_vMethod, y_vLine, y_vHeld, y_put) := fun a b =>
        h1 _ (sc_fI (by omega) ((fb_y k6).mpr ⟨a, b⟩) no)
      rw [wY_examine_2]
      refine br_f (by rw [hM, nI_m6]; exact nI_ge (by omega) (by omega)) ⟨vp_in_nI (by omega) (by decide), ?_⟩
      rw [nI_c (by omega), nI_r6 (by omega), nI_d6 (by omega), e1, e2, nI_c (by omega), l1]
      refine nm_e ⟨vp_in_nI (by omega) (by decide), nm_e ⟨by decide, by decide, vp_in_nI (by omega) (by decide), pk_le (hq_t (y_length m)) k (fun z => nm_r (nI_1 _) (nx (fun q => by have := ((fb_y k6).mp q).1; omega))) (fun kl => ?_)⟩⟩
      obtain ⟨o, o6, _, g2, g3, _, g5, _⟩ := T.2.2.2.2.2.1 m k hm kl
      have nx0 : fl_v C y_isInterface y_isAbstract (fo_v M y_ancestors chn y_home y_name) (y_op (6 * m + k)) (y_first (6 * m + k)) (y_second (6 * m + k)) = 0 → wY_examine_2 post y_classes y_methods y_rules y_place y_named y_made y_namedMethods y_live y_built y_depth y_steps y_outs y_ending y_isInterface y_isAbstract y_parent y_ancestors y_own y_many y_home y_name y_length y_op y_first y_second y_ruleKind y_ruleClasses y_ruleNames y_inlined y_number y_newName y_family y_vMethod y_vLine y_vHeld y_put f (nI (6 * m + k + 1)) := fun z => nx (fun q => ((fb_y k6).mp q).2 z)
      have hit := hit kl
      rw [g2] at nx0 hit ⊢
      refine pk_eq o 0 (fun z => ?_) (fun z0 => pk_eq o 5 (fun z => ?_) (fun z5 => ?_))
      · subst z; exact nm_r (nI_1 _) (nx0 (fl_0 (Or.inl rfl)))
      · subst z; exact nm_r (nI_1 _) (nx0 (fl_0 (Or.inr rfl)))
      · obtain ⟨c, c10, _, f2⟩ := g3 (by omega)
        have no5 : ¬ (nI o = 0 ∨ nI o = 5) := by
          rintro (z | z)
          · have := (nI_eq (a := o) (b := 0) (by omega) (by omega)).mp z; omega
          · have := (nI_eq (a := o) (b := 5) (by omega) (by omega)).mp z; omega
        rw [f2] at nx0 hit ⊢
        have hce : hq_t (nI c) = c := hq_e (by omega)
        refine pk_lt c C (fun cl => ?_) (fun cl => ?_) rfl hC
        · have ncl : ¬ C ≤ hq_t (nI c) := by rw [hce]; omega
          refine pk_eq o 1 (fun z => ⟨vp_in_nI (by omega) (by decide), ?_⟩) (fun z1 => ?_)
          · subst z
            rw [nI_c (by omega)]
            rw [show nI 1 = (1 : Int32) from rfl, fl_2 ncl, hce] at nx0 hit
            refine br_c (fun a => ?_) (fun a => ?_)
            · rw [if_pos a] at nx0 hit
              unfold wY_examine_92
              exact br_f (by decide) (br_f (by decide) (yx_1 (by omega) nx0 hit))
            · rw [if_neg a] at nx0 hit
              exact yx_1 (by omega) nx0 hit
          · unfold wY_examine_92
            refine pk_eq o 2 (fun z => ?_) (fun z2 => pk_eq o 3 (fun z => ?_) (fun z3 => ?_))
            · obtain ⟨n, n10, _, h2⟩ := g5 (Or.inl z)
              rw [h2] at nx0 hit
              exact yx_2 T hC hM (by omega) cl (Or.inl z) h2 nx0 hit
            · obtain ⟨n, n10, _, h2⟩ := g5 (Or.inr z)
              rw [h2] at nx0 hit
              exact yx_2 T hC hM (by omega) cl (Or.inr z) h2 nx0 hit
            · have : o = 4 := by omega
              subst this
              rw [show nI 4 = (4 : Int32) from rfl, fl_4 ncl] at nx0 hit
              exact yx_1 (by omega) nx0 hit
        · rw [fl_1 no5 (by rw [hce]; exact cl)] at nx0 hit
          exact yx_1 (by omega) nx0 hit
  unfold wpY_examine
  exact ⟨6 * M + 1, lo (6 * M) 0 _ (by omega) (by omega) (fun j hj => by omega)⟩
end
