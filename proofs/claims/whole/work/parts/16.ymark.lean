/-! ===== Y's marking ===== -/
def ey_p (C : Nat) (fil : Nat → Prop) (anc : Nat → Int32) (F : Nat → Int32 → Option Nat) (ylen yop yfi yse yin : Nat → Int32) (m : Nat) (S : Nat → Nat → Prop) : Prop :=
  ∀ k, k < hq_t (ylen m) → ef_p C anc fil F (yop (6 * m + k)) (yfi (6 * m + k)) (yse (6 * m + k)) (¬ yin (6 * m + k) < 0) S
def my_p (Cl : (Nat → Nat → Prop) → Prop) (a b c d : Int32) : Prop := ∀ S, Cl S → mk_le a b c d S
section
variable {y_classes y_methods y_rules y_place y_named y_made y_namedMethods y_live y_built y_depth y_steps y_outs y_ending : Int32} {y_isInterface y_isAbstract y_parent y_ancestors y_own y_many y_home y_name y_length y_op y_first y_second y_ruleKind y_ruleClasses y_ruleNames y_inlined y_number y_newName y_family y_vMethod y_vLine y_vHeld y_put : Nat → Int32} {chn xform xname xlen xop xcl xnu xsm xsl xca : Nat → Int32} {C M R : Nat} {Cl : (Nat → Nat → Prop) → Prop} {a b c d : Int32}
theorem yr_1 {post : SY → Prop} {m : Nat} (hm : m < 30) (h : my_p Cl a b c d) (J : ∀ S, Cl S → S 2 m ∧ (y_isAbstract m = 0 → S 3 m))
    (K : ∀ c' d', my_p Cl a b c' d' → mk_gr a b c d a b c' d' → bt c' m = true → (y_isAbstract m = 0 → bt d' m = true) → post (y_classes, y_methods, y_rules, y_place, a, b, c', d', y_built, y_depth, y_steps, y_outs, y_ending, y_isInterface, y_isAbstract, y_parent, y_ancestors, y_own, y_many, y_home, y_name, y_length, y_op, y_first, y_second, y_ruleKind, y_ruleClasses, y_ruleNames, y_inlined, y_number, y_newName, y_family, y_vMethod, y_vLine, y_vHeld, y_put)) :
    wpY_reach post (y_classes, y_methods, y_rules, y_place, a, b, c, d, y_built, y_depth, y_steps, y_outs, y_ending, y_isInterface, y_isAbstract, y_parent, y_ancestors, y_own, y_many, y_home, y_name, y_length, y_op, y_first, y_second, y_ruleKind, y_ruleClasses, y_ruleNames, y_inlined, y_number, y_newName, y_family, y_vMethod, y_vLine, y_vHeld, y_put) (nI m) 1 := by
  unfold wpY_reach
  dsimp only
  rw [nI_c (by omega)]
  refine nm_e (br_f (by decide) ⟨vp_in_nI hm (by decide), br_c (fun z => nm_e (K _ _ ?_ ?_ ?_ ?_)) (fun z => K _ _ ?_ ?_ ?_ ?_)⟩)
  · exact fun S hS => mk_a3 (mk_a2 (h S hS) (mk_b1 (by omega) (J S hS).1)) (mk_b1 (by omega) ((J S hS).2 z))
  · exact ⟨ss_rf a, ss_rf b, ss_ol c _, ss_ol d _⟩
  · exact (bq_o1 c (by omega) m).mpr (Or.inr rfl)
  · exact fun _ => (bq_o1 d (by omega) m).mpr (Or.inr rfl)
  · exact fun S hS => mk_a2 (h S hS) (mk_b1 (by omega) (J S hS).1)
  · exact ⟨ss_rf a, ss_rf b, ss_ol c _, ss_rf d⟩
  · exact (bq_o1 c (by omega) m).mpr (Or.inr rfl)
  · exact fun y => absurd y z
theorem yr_0 {post : SY → Prop} {m : Nat} (hm : m < 30) (h : my_p Cl a b c d) (J : ∀ S, Cl S → S 2 m)
    (K : ∀ c', my_p Cl a b c' d → mk_gr a b c d a b c' d → bt c' m = true → post (y_classes, y_methods, y_rules, y_place, a, b, c', d, y_built, y_depth, y_steps, y_outs, y_ending, y_isInterface, y_isAbstract, y_parent, y_ancestors, y_own, y_many, y_home, y_name, y_length, y_op, y_first, y_second, y_ruleKind, y_ruleClasses, y_ruleNames, y_inlined, y_number, y_newName, y_family, y_vMethod, y_vLine, y_vHeld, y_put)) :
    wpY_reach post (y_classes, y_methods, y_rules, y_place, a, b, c, d, y_built, y_depth, y_steps, y_outs, y_ending, y_isInterface, y_isAbstract, y_parent, y_ancestors, y_own, y_many, y_home, y_name, y_length, y_op, y_first, y_second, y_ruleKind, y_ruleClasses, y_ruleNames, y_inlined, y_number, y_newName, y_family, y_vMethod, y_vLine, y_vHeld, y_put) (nI m) 0 := by
  unfold wpY_reach
  dsimp only
  refine nm_e (br_t rfl (K _ ?_ ?_ ?_))
  · exact fun S hS => mk_a2 (h S hS) (mk_b1 (by omega) (J S hS))
  · exact ⟨ss_rf a, ss_rf b, ss_ol c _, ss_rf d⟩
  · exact (bq_o1 c (by omega) m).mpr (Or.inr rfl)
theorem yc_l (T : tp_p C M R y_isInterface y_ancestors y_own chn y_parent y_many y_home y_ruleKind y_ruleClasses y_ruleNames xform xname xlen y_isAbstract y_name y_length xop xcl xnu xsm xsl xca y_op y_first y_second) (hC : y_classes = nI C) (hM : y_methods = nI M) {post : SY → Prop} {k j : Nat} (hj : j < 180) (hk : k < C) {a0 c0 d0 : Int32}
    (fu : ∀ e, e < C → bt (y_ancestors e) k = true → ∃ g, fo_v M y_ancestors chn y_home y_name e (y_second j) = some g)
    (J : ∀ S, Cl S → ∀ e, e < C → S 1 e → bt (y_ancestors e) k = true → ∀ g, fo_v M y_ancestors chn y_home y_name e (y_second j) = some g → S 2 g ∧ (y_isAbstract g = 0 → S 3 g))
    (K : ∀ a c d, my_p Cl a b c d → mk_gr a0 b c0 d0 a b c d → (∀ e, e < C → bt b e = true → bt (y_ancestors e) k = true → ∀ g, fo_v M y_ancestors chn y_home y_name e (y_second j) = some g → bt c g = true ∧ (y_isAbstract g = 0 → bt d g = true)) → post (y_classes, y_methods, y_rules, y_place, a, b, c, d, y_built, y_depth, y_steps, y_outs, y_ending, y_isInterface, y_isAbstract, y_parent, y_ancestors, y_own, y_many, y_home, y_name, y_length, y_op, y_first, y_second, y_ruleKind, y_ruleClasses, y_ruleNames, y_inlined, y_number, y_newName, y_family, y_vMethod, y_vLine, y_vHeld, y_put)) :
    ∀ q i f a c d, i + q = C → q < f → my_p Cl a b c d → mk_gr a0 b c0 d0 a b c d →
      (∀ e, e < i → bt b e = true → bt (y_ancestors e) k = true → ∀ g, fo_v M y_ancestors chn y_home y_name e (y_second j) = some g → bt c g = true ∧ (y_isAbstract g = 0 → bt d g = true)) →
      wY_follow_119 post (nI j) 2 (nI k) f (nI i) y_classes y_methods y_rules y_place a b c d y_built y_depth y_steps y_outs y_ending y_isInterface y_isAbstract y_parent y_ancestors y_own y_many y_home y_name y_length y_op y_first y_second y_ruleKind y_ruleClasses y_ruleNames y_inlined y_number y_newName y_family y_vMethod y_vLine y_vHeld y_put := by
  have h10 := T.1.1
  have h30 := T.2.2.1.1
  intro q
  induction q with
  | zero =>
    intro i f a c d e hf h g z
    obtain ⟨f, rfl⟩ : ∃ q, f = q + 1 := ⟨f - 1, by omega⟩
    have e : i = C := by omega
    subst e
    rw [wY_follow_119]
    exact br_t (by rw [hC]; exact nI_le (Nat.le_refl _) (by omega)) (K a c d h g z)
  | succ q ih =>
    intro i f a c d e hf h g z
    obtain ⟨f, rfl⟩ : ∃ q, f = q + 1 := ⟨f - 1, by omega⟩
    have nx : ¬ (bt b i = true ∧ bt (y_ancestors i) k = true) → wY_follow_119 post (nI j) 2 (nI k) f (nI (i + 1)) y_classes y_methods y_rules y_place a b c d y_built y_depth y_steps y_outs y_ending y_isInterface y_isAbstract y_parent y_ancestors y_own y_many y_home y_name y_length y_op y_first y_second y_ruleKind y_ruleClasses y_ruleNames y_inlined y_number y_newName y_family y_vMethod y_vLine y_vHeld y_put := fun y =>
      ih (i + 1) f a c d (by omega) (by omega) h g (fun e he x w => by
        rcases Nat.lt_or_ge e i with v | v
        · exact z e v x w
        · have : e = i := by omega
          subst this; exact absurd ⟨x, w⟩ y)
    rw [wY_follow_119]
    refine br_f (by rw [hC]; exact nI_ge (by omega) (by omega)) (br_t rfl (yb_b (by omega) (fun y => ⟨vp_in_nI (by omega) (by decide), ?_⟩) (fun y => nm_r (nI_1 i) (nx (fun q => y q.1)))))
    rw [nI_c (show i < 10000 by omega), nI_c (show j < 10000 by omega)]
    refine yb_b (by omega) (fun w => ⟨vp_in_nI (by omega) (by decide), ?_⟩) (fun w => nm_r (nI_1 i) (nx (fun q => w q.2)))
    obtain ⟨m, em⟩ := fu i (by omega) w
    have hm := (fd_s T.1 (by omega) em).1
    refine yo_v T hC hM (by omega) ?_
    rw [em]
    refine yr_1 (m := m) (by omega) h (fun S hS => J S hS i (by omega) (h S hS 1 i y) w m em) (fun c' d' m1 m2 m3 m4 => ?_)
    refine nm_r (nI_1 i) (ih (i + 1) f a c' d' (by omega) (by omega) m1 (mk_grt g m2) (fun e he x v => ?_))
    rcases Nat.lt_or_ge e i with u | u
    · intro m em
      exact ⟨m2.2.2.1 m (z e u x v m em).1, fun t => m2.2.2.2 m ((z e u x v m em).2 t)⟩
    · have : e = i := by omega
      subst this
      intro m' em'
      rw [em] at em'
      have : m = m' := by simpa using em'
      subst this; exact ⟨m3, m4⟩
/-- following a line -/
theorem yl_v (T : tp_p C M R y_isInterface y_ancestors y_own chn y_parent y_many y_home y_ruleKind y_ruleClasses y_ruleNames xform xname xlen y_isAbstract y_name y_length xop xcl xnu xsm xsl xca y_op y_first y_second) (hC : y_classes = nI C) (hM : y_methods = nI M) {post : SY → Prop} {j o : Nat} (hj : j < 180) (ho : y_op j = nI o) (o6 : o < 6)
    (hcl : 1 ≤ o → o ≤ 4 → ∃ k, k < C ∧ y_first j = nI k) (hfo : o = 2 ∨ o = 3 → ∃ g, fo_v M y_ancestors chn y_home y_name (hq_t (y_first j)) (y_second j) = some g) (h : my_p Cl a b c d)
    (J : ∀ S, Cl S → ef_p C y_ancestors (fun m => y_isAbstract m = 0) (fo_v M y_ancestors chn y_home y_name) (y_op j) (y_first j) (y_second j) (¬ y_inlined j < 0) S)
    (K : ∀ a' b' c' d', my_p Cl a' b' c' d' → mk_gr a b c d a' b' c' d' → ef_p C y_ancestors (fun m => y_isAbstract m = 0) (fo_v M y_ancestors chn y_home y_name) (y_op j) (y_first j) (y_second j) (¬ y_inlined j < 0) (mk_s a' b' c' d') → post (y_classes, y_methods, y_rules, y_place, a', b', c', d', y_built, y_depth, y_steps, y_outs, y_ending, y_isInterface, y_isAbstract, y_parent, y_ancestors, y_own, y_many, y_home, y_name, y_length, y_op, y_first, y_second, y_ruleKind, y_ruleClasses, y_ruleNames, y_inlined, y_number, y_newName, y_family, y_vMethod, y_vLine, y_vHeld, y_put)) :
    wpY_follow post (y_classes, y_methods, y_rules, y_place, a, b, c, d, y_built, y_depth, y_steps, y_outs, y_ending, y_isInterface, y_isAbstract, y_parent, y_ancestors, y_own, y_many, y_home, y_name, y_length, y_op, y_first, y_second, y_ruleKind, y_ruleClasses, y_ruleNames, y_inlined, y_number, y_newName, y_family, y_vMethod, y_vLine, y_vHeld, y_put) (nI j) := by
  have h10 := T.1.1
  have h30 := T.2.2.1.1
  have ne : ∀ p, p < 6 → ¬ o = p → ¬ nI o = nI p := fun p hp z y => z ((nI_eq (by omega) (by omega)).mp y)
  unfold wpY_follow
  dsimp only
  rw [nI_c (by omega)]
  refine ⟨vp_in_nI hj (by decide), nm_r ho ⟨vp_in_nI hj (by decide), nm_e ?_⟩⟩
  rw [ho] at J K
  refine pk_eq o 0 (fun z => ?_) (fun z0 => pk_eq o 5 (fun z => ?_) (fun z5 => ?_))
  · subst z
    exact K a b c d h (mk_gr0 a b c d) ⟨fun y => absurd y (by decide), fun y => absurd y (by decide), fun y => absurd y (by decide), fun y => absurd y (by decide)⟩
  · subst z
    exact K a b c d h (mk_gr0 a b c d) ⟨fun y => absurd y (by decide), fun y => absurd y (by decide), fun y => absurd y (by decide), fun y => absurd y (by decide)⟩
  · obtain ⟨k, hk, ek⟩ := hcl (by omega) (by omega)
    have hke : hq_t (nI k) = k := hq_e (by omega)
    rw [ek] at J K hfo ⊢
    rw [hke] at hfo
    have go : ¬ (o = 3 ∧ ¬ y_inlined j < 0) → wY_follow_38 post (nI j) (nI o) (nI k) y_classes y_methods y_rules y_place a b c d y_built y_depth y_steps y_outs y_ending y_isInterface y_isAbstract y_parent y_ancestors y_own y_many y_home y_name y_length y_op y_first y_second y_ruleKind y_ruleClasses y_ruleNames y_inlined y_number y_newName y_family y_vMethod y_vLine y_vHeld y_put := by
      intro ni
      have JN : ∀ S, Cl S → S 0 k := fun S hS => by
        obtain ⟨j1, j2, j3, j4⟩ := J S hS
        rw [hke] at j1 j2 j3 j4
        rcases (by omega : o = 1 ∨ o = 2 ∨ o = 3 ∨ o = 4) with q | q | q | q
        · subst q; exact (j1 rfl).1
        · subst q; exact (j4 rfl).1
        · subst q; exact (j3 rfl (fun y => ni ⟨rfl, y⟩)).1
        · subst q; exact j2 rfl
      have m1 : my_p Cl (a ||| ((1 : Int32) <<< (nI k &&& 31))) b c d := fun S hS => mk_a0 (h S hS) (mk_b1 (by omega) (JN S hS))
      have m2 : mk_gr a b c d (a ||| ((1 : Int32) <<< (nI k &&& 31))) b c d := ⟨ss_ol a _, ss_rf b, ss_rf c, ss_rf d⟩
      have m3 : bt (a ||| ((1 : Int32) <<< (nI k &&& 31))) k = true := (bq_o1 a (by omega) k).mpr (Or.inr rfl)
      unfold wY_follow_38
      refine nm_e ?_
      generalize a ||| ((1 : Int32) <<< (nI k &&& 31)) = a1 at m1 m2 m3 ⊢
      have KK : ∀ b' c' d', my_p Cl a1 b' c' d' → mk_gr a1 b c d a1 b' c' d' → ef_p C y_ancestors (fun m => y_isAbstract m = 0) (fo_v M y_ancestors chn y_home y_name) (nI o) (nI k) (y_second j) (¬ y_inlined j < 0) (mk_s a1 b' c' d') → post (y_classes, y_methods, y_rules, y_place, a1, b', c', d', y_built, y_depth, y_steps, y_outs, y_ending, y_isInterface, y_isAbstract, y_parent, y_ancestors, y_own, y_many, y_home, y_name, y_length, y_op, y_first, y_second, y_ruleKind, y_ruleClasses, y_ruleNames, y_inlined, y_number, y_newName, y_family, y_vMethod, y_vLine, y_vHeld, y_put) :=
        fun b' c' d' p1 p2 p3 => K a1 b' c' d' p1 (mk_grt m2 p2) p3
      refine pk_eq o 1 (fun z => nm_e ?_) (fun z1 => ?_)
      · subst z
        unfold wY_follow_67
        refine br_f (by decide) (br_t rfl (KK _ c d ?_ ?_ ?_))
        · exact fun S hS => mk_a1 (m1 S hS) (mk_b1 (by omega) (by have := ((J S hS).1 rfl).2; rw [hke] at this; exact this))
        · exact ⟨ss_rf _, ss_ol b _, ss_rf c, ss_rf d⟩
        · exact ⟨fun _ => by rw [hke]; exact ⟨m3, (bq_o1 b (by omega) k).mpr (Or.inr rfl)⟩, fun y => absurd y (by decide), fun y => absurd y (by decide), fun y => absurd y (by decide)⟩
      · unfold wY_follow_67
        refine pk_eq o 4 (fun z => ?_) (fun z4 => pk_eq o 1 (fun z => absurd z z1) (fun _ => ⟨vp_in_nI hj (by decide), ?_⟩))
        · subst z
          exact KK b c d m1 (mk_gr0 _ _ _ _) ⟨fun y => absurd y (by decide), fun _ => by rw [hke]; exact m3, fun y => absurd y (by decide), fun y => absurd y (by decide)⟩
        · rw [nI_c (show j < 10000 by omega)]
          refine br_c (fun y => ⟨vp_in_nI hj (by decide), ?_⟩) (fun y => ?_)
          · obtain ⟨g, eg⟩ := hfo (by omega)
            have gM := (fd_s T.1 hk eg).1
            refine yo_v T hC hM hk ?_
            rw [eg]
            refine pk_eq o 3 (fun z => ?_) (fun z3 => ?_)
            · subst z
              unfold wY_follow_113
              have j3 : ∀ S, Cl S → S 2 g ∧ (y_isAbstract g = 0 → S 3 g) := fun S hS => by
                have := ((J S hS).2.2.1 rfl (fun x => x y)).2
                rw [hke] at this
                exact this g eg
              refine yr_1 (m := g) (by omega) m1 j3 (fun c' d' p1 p2 p3 p4 => ⟨1, ?_⟩)
              have fin := KK b c' d' p1 p2 ⟨fun y => absurd y (by decide), fun y => absurd y (by decide), fun _ _ => by
                rw [hke]
                refine ⟨m3, fun f ef => ?_⟩
                rw [eg] at ef
                have : g = f := by simpa using ef
                subst this; exact ⟨p3, p4⟩, fun y => absurd y (by decide)⟩
              rw [wY_follow_119]
              exact br_c (fun _ => fin) (fun _ => br_f (by decide) fin)
            · have o2 : o = 2 := by omega
              subst o2
              unfold wY_follow_113
              have j4 : ∀ S, Cl S → (∀ f, fo_v M y_ancestors chn y_home y_name k (y_second j) = some f → S 2 f) ∧ ∀ e, e < C → S 1 e → bt (y_ancestors e) k = true → ∀ g, fo_v M y_ancestors chn y_home y_name e (y_second j) = some g → S 2 g ∧ (y_isAbstract g = 0 → S 3 g) := fun S hS => by
                have := ((J S hS).2.2.2 rfl).2 (fun x => x y)
                rw [hke] at this
                exact this
              refine yr_0 (m := g) (by omega) m1 (fun S hS => (j4 S hS).1 g eg) (fun c' p1 p2 p3 => ⟨C + 1, ?_⟩)
              refine yc_l T hC hM hj hk (fun e he x => fd_up T.1 hk he eg x) (fun S hS => (j4 S hS).2) (fun a' c'' d'' r1 r2 r3 => ?_) C 0 (C + 1) a1 c' d (by omega) (by omega) p1 (mk_gr0 _ _ _ _) (fun e he => by omega)
              refine K a' b c'' d'' r1 (mk_grt m2 (mk_grt p2 r2)) ⟨fun y => absurd y (by decide), fun y => absurd y (by decide), fun y => absurd y (by decide), fun _ => ?_⟩
              rw [hke]
              refine ⟨r2.1 k m3, fun _ => ⟨fun f ef => ?_, r3⟩⟩
              rw [eg] at ef
              have : g = f := by simpa using ef
              subst this; exact r2.2.2.1 g p3
          · have o2 : o = 2 := by
              rcases (by omega : o = 2 ∨ o = 3) with q | q
              · exact q
              · exact absurd ⟨q, y⟩ ni
            subst o2
            exact KK b c d m1 (mk_gr0 _ _ _ _) ⟨fun y => absurd y (by decide), fun y => absurd y (by decide), fun y => absurd y (by decide), fun _ => by rw [hke]; exact ⟨m3, fun x => absurd y x⟩⟩
    refine pk_eq o 3 (fun z => ⟨vp_in_nI hj (by decide), br_c (fun y => go (fun q => q.2 y)) (fun y => ?_)⟩) (fun z => go (fun q => z q.1))
    subst z
    exact K a b c d h (mk_gr0 a b c d) ⟨fun y => absurd y (by decide), fun y => absurd y (by decide), fun _ x => absurd y x, fun y => absurd y (by decide)⟩
end
