/-! ===== Y's build ===== -/
theorem ey_cg {C : Nat} {fil : Nat → Prop} {anc : Nat → Int32} {F : Nat → Int32 → Option Nat} {ylen yop yfi yse i i' : Nat → Int32} {m : Nat} (h : ∀ k, k < hq_t (ylen m) → i (6 * m + k) = i' (6 * m + k)) (S : Nat → Nat → Prop) :
    ey_p C fil anc F ylen yop yfi yse i m S ↔ ey_p C fil anc F ylen yop yfi yse i' m S := by
  unfold ey_p
  constructor
  · intro z k hk
    have := z k hk
    rw [h k hk] at this
    exact this
  · intro z k hk
    have := z k hk
    rw [← h k hk] at this
    exact this
section
variable {y_classes y_methods y_rules y_place y_named y_made y_namedMethods y_live y_built y_depth y_steps y_outs y_ending : Int32} {y_isInterface y_isAbstract y_parent y_ancestors y_own y_many y_home y_name y_length y_op y_first y_second y_ruleKind y_ruleClasses y_ruleNames y_inlined y_number y_newName y_family y_vMethod y_vLine y_vHeld y_put : Nat → Int32} {chn xform xname xlen xop xcl xnu xsm xsl xca : Nat → Int32} {C M R : Nat}
theorem yB_v (T : tp_p C M R y_isInterface y_ancestors y_own chn y_parent y_many y_home y_ruleKind y_ruleClasses y_ruleNames xform xname xlen y_isAbstract y_name y_length xop xcl xnu xsm xsl xca y_op y_first y_second) (hC : y_classes = nI C) (hM : y_methods = nI M) (hR : y_rules = nI R) {post : Int32 → SY → Prop}
    (Kf : ∀ k, ff_v C M y_isInterface y_ancestors chn y_home y_isAbstract y_name y_length y_op y_first y_second = some k → post (fl_v C y_isInterface y_isAbstract (fo_v M y_ancestors chn y_home y_name) (y_op k) (y_first k) (y_second k)) (y_classes, y_methods, y_rules, nI (8 * (k / 6) + k % 6), y_named, y_made, y_namedMethods, y_live, 0, y_depth, y_steps, y_outs, y_ending, y_isInterface, y_isAbstract, y_parent, y_ancestors, y_own, y_many, y_home, y_name, y_length, y_op, y_first, y_second, y_ruleKind, y_ruleClasses, y_ruleNames, y_inlined, y_number, y_newName, y_family, y_vMethod, y_vLine, y_vHeld, y_put))
    {a1 b1 c1 d1 a b c d : Int32} {inl : Nat → Int32}
    (K : ff_v C M y_isInterface y_ancestors chn y_home y_isAbstract y_name y_length y_op y_first y_second = none → mi_ok C M R y_ancestors y_home y_name y_ruleKind y_ruleClasses y_ruleNames (fun m => y_isAbstract m = 0) (ey_p C (fun m => y_isAbstract m = 0) y_ancestors (fo_v M y_ancestors chn y_home y_name) y_length y_op y_first y_second (fun _ => -1)) a1 b1 c1 d1 ∧ cl_ok C M R y_ancestors y_home y_name y_ruleKind y_ruleClasses y_ruleNames (fun m => y_isAbstract m = 0) (ey_p C (fun m => y_isAbstract m = 0) y_ancestors (fo_v M y_ancestors chn y_home y_name) y_length y_op y_first y_second (fun _ => -1)) (mk_s a1 b1 c1 d1) ∧ (∀ m k, m < M → k < 6 → il_p C M y_ancestors chn y_home y_isAbstract y_name y_length y_op y_first y_second b1 d1 m k (inl (6 * m + k))) ∧ mi_ok C M R y_ancestors y_home y_name y_ruleKind y_ruleClasses y_ruleNames (fun m => y_isAbstract m = 0) (ey_p C (fun m => y_isAbstract m = 0) y_ancestors (fo_v M y_ancestors chn y_home y_name) y_length y_op y_first y_second inl) a b c d ∧ cl_ok C M R y_ancestors y_home y_name y_ruleKind y_ruleClasses y_ruleNames (fun m => y_isAbstract m = 0) (ey_p C (fun m => y_isAbstract m = 0) y_ancestors (fo_v M y_ancestors chn y_home y_name) y_length y_op y_first y_second inl) (mk_s a b c d) ∧
      ∀ inlY nu fa nn kept, (∀ m k, m < M → k < 6 → inlY (6 * m + k) = inl (6 * m + k)) → ke_p R y_ruleClasses a kept → (∀ k, k < C → nu k = nu_v kept a k) → (∀ m, m < M → fa m = nI (kn_f C M y_ancestors y_home y_name a c m)) →
        (∀ m, m < M → nn m = na_it C M R y_ancestors y_home y_name y_ruleClasses y_ruleNames a c M m) →
        post 0 (y_classes, y_methods, y_rules, -1, a, b, c, d, 1, y_depth, y_steps, y_outs, y_ending, y_isInterface, y_isAbstract, y_parent, y_ancestors, y_own, y_many, y_home, y_name, y_length, y_op, y_first, y_second, y_ruleKind, y_ruleClasses, y_ruleNames, inlY, nu, nn, fa, y_vMethod, y_vLine, y_vHeld, y_put)) :
    wpY_build post (y_classes, y_methods, y_rules, y_place, y_named, y_made, y_namedMethods, y_live, y_built, y_depth, y_steps, y_outs, y_ending, y_isInterface, y_isAbstract, y_parent, y_ancestors, y_own, y_many, y_home, y_name, y_length, y_op, y_first, y_second, y_ruleKind, y_ruleClasses, y_ruleNames, y_inlined, y_number, y_newName, y_family, y_vMethod, y_vLine, y_vHeld, y_put) := by
  have h30 := T.2.2.1.1
  have h10 := T.1.1
  have h4 := T.2.2.2.2.2.2.1
  unfold wpY_build
  dsimp only
  refine yx_v T hC hM (fun NF => ?_) (fun k NF => ?_)
  · obtain ⟨g1, g2, g3, g4, g5, KK⟩ := K NF
    dsimp only
    refine br_t rfl ⟨181, ?_⟩
    have lo : ∀ (q i f : Nat) (il : Nat → Int32), i + q = 180 → q < f → (∀ j, j < i → il j = -1) → wY_build_23 post y_classes y_methods y_rules (-1) y_named y_made y_namedMethods y_live 0 y_depth y_steps y_outs y_ending f (nI i) y_isInterface y_isAbstract y_parent y_ancestors y_own y_many y_home y_name y_length y_op y_first y_second y_ruleKind y_ruleClasses y_ruleNames il y_number y_newName y_family y_vMethod y_vLine y_vHeld y_put := by
      intro q
      induction q with
      | zero =>
        intro i f il e hf z
        obtain ⟨f, rfl⟩ : ∃ q, f = q + 1 := ⟨f - 1, by omega⟩
        have e : i = 180 := by omega
        subst e
        rw [wY_build_23]
        refine br_t (nI_le (a := 180) (by omega) (by decide)) (y0_v T NF hC hM hR (fun a' b' c' d' p1 p2 => ?_))
        have eq0 : ∀ m S, m < M → (ey_p C (fun m => y_isAbstract m = 0) y_ancestors (fo_v M y_ancestors chn y_home y_name) y_length y_op y_first y_second il m S ↔ ey_p C (fun m => y_isAbstract m = 0) y_ancestors (fo_v M y_ancestors chn y_home y_name) y_length y_op y_first y_second (fun _ => -1) m S) := fun m S hm => ey_cg (fun k hk => z _ (by have := (ty_len T hm).2; omega)) S
        obtain ⟨s1, s2, s3, s4⟩ := mk_un (fun m S hm => (eq0 m S hm).symm) g2 g1.1 p2 p1
        subst s1 s2 s3 s4
        dsimp only
        refine ⟨6 * M + 1, ?_⟩
        refine yi_l T NF hC hM (fun il' hil => ?_) (6 * M) 0 (6 * M + 1) il (by omega) (by omega) ⟨fun m k _ _ h => by omega, fun j _ hj => z j hj⟩
        have same : ∀ m k, m < M → k < 6 → il' (6 * m + k) = inl (6 * m + k) := fun m k hm hk => il_u (hil m k hm hk) (g3 m k hm hk)
        rw [wY_build_49]
        refine br_t (by rw [hM, nI_m6]; exact nI_le (by omega) (by omega)) (y0_v T NF hC hM hR (fun a'' b'' c'' d'' q1 q2 => ?_))
        have eq1 : ∀ m S, m < M → (ey_p C (fun m => y_isAbstract m = 0) y_ancestors (fo_v M y_ancestors chn y_home y_name) y_length y_op y_first y_second il' m S ↔ ey_p C (fun m => y_isAbstract m = 0) y_ancestors (fo_v M y_ancestors chn y_home y_name) y_length y_op y_first y_second inl m S) := fun m S hm => ey_cg (fun k hk => same m k hm (by have := (ty_len T hm).2; omega)) S
        obtain ⟨s1, s2, s3, s4⟩ := mk_un (fun m S hm => (eq1 m S hm).symm) g5 g4.1 q2 q1
        subst s1 s2 s3 s4
        dsimp only
        refine yN_v h10 h4 hC hR T.2.2.2.2.2.2.2 g4.2.2.1 (fun kept nu k1 k2 => ?_)
        dsimp only
        refine yJ_v h10 T.2.2.1 g4.2.1 hC hM (fun fa hfa => ?_)
        dsimp only
        refine yA_v T g4.2.1 hC hM hR hfa (fun nn hnn => ?_)
        dsimp only
        exact KK il' nu fa nn kept same k1 k2 hfa hnn
      | succ q ih =>
        intro i f il e hf z
        obtain ⟨f, rfl⟩ : ∃ q, f = q + 1 := ⟨f - 1, by omega⟩
        rw [wY_build_23]
        refine br_f (nI_ge (b := 180) (by omega) (by decide)) ⟨vp_in_nI (by omega) (by decide), ?_⟩
        rw [nI_c (show i < 10000 by omega)]
        refine nm_e (nm_r (nI_1 i) (ih (i + 1) f _ (by omega) (by omega) (fun j hj => ?_)))
        by_cases c : j = i
        · subst c; exact pk_us
        · rw [pk_un c]; exact z j (by omega)
    exact lo 180 0 181 _ (by omega) (by omega) (fun j hj => by omega)
  · dsimp only
    refine br_f ?_ (Kf k NF)
    obtain ⟨kM, kb, _⟩ := sc_fe NF
    obtain ⟨m, i, i6, rfl⟩ : ∃ m i, i < 6 ∧ k = 6 * m + i := ⟨k / 6, k % 6, by omega, by omega⟩
    exact ((fb_y i6).mp kb).2
end
