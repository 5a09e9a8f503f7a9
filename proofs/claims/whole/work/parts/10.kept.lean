/-! depends, keep, impliesKept, agreeing -/
def qd_dx (f : Nat → Bool) (b : Nat) : Nat → Bool
  | 0 => false
  | n + 1 => qd_dx f b n || (f n != f (n ^^^ 2 ^ b))
theorem qd_dx_t {f : Nat → Bool} {b : Nat} : ∀ {n : Nat}, qd_dx f b n = true ↔ ∃ i, i < n ∧ f i ≠ f (i ^^^ 2 ^ b)
  | 0 => ⟨fun h => absurd h Bool.false_ne_true, fun ⟨i, hi, _⟩ => absurd hi (by omega)⟩
  | n + 1 => by
    unfold qd_dx
    rw [Bool.or_eq_true, qd_dx_t (n := n), bne_iff_ne]
    constructor
    · rintro (⟨i, hi, h⟩ | h)
      · exact ⟨i, by omega, h⟩
      · exact ⟨n, by omega, h⟩
    · rintro ⟨i, hi, h⟩
      by_cases e : i = n
      · subst e; exact Or.inr h
      · exact Or.inl ⟨i, by omega, h⟩
theorem qd_x1 : ∀ b, b < 6 → ∀ i, i < 64 → i ^^^ 2 ^ b < 64 ∧ (i ^^^ 2 ^ b) ^^^ 2 ^ b = i := by decide +kernel
theorem qd_x3 : ∀ b, b < 6 → ∀ i, i < 64 → i / 2 ^ b % 2 = 1 → ¬ (i ^^^ 2 ^ b) / 2 ^ b % 2 = 1 := by decide +kernel
theorem qd_x4 : ∀ b, b < 6 → ∀ i, i < 64 → ¬ i / 2 ^ b % 2 = 1 → 2 ^ b + i = i ^^^ 2 ^ b ∧ (i ^^^ 2 ^ b) / 2 ^ b % 2 = 1 := by decide +kernel
theorem qd_x5 : ∀ b, b < 6 → ∀ i, i < 64 → i / 2 ^ b % 2 = 1 → 2 ^ b + i < 64 → ¬ (2 ^ b + i) / 2 ^ b % 2 = 1 := by decide +kernel
theorem qd_x64 (b : Nat) (hb : b < 6) (i : Nat) (hi : i < 64) : i ^^^ 2 ^ b < 64 ∧ (i ^^^ 2 ^ b) ^^^ 2 ^ b = i ∧ (i / 2 ^ b % 2 = 1 → (i ^^^ 2 ^ b) / 2 ^ b % 2 ≠ 1) ∧ (i / 2 ^ b % 2 ≠ 1 → 2 ^ b + i = i ^^^ 2 ^ b ∧ (i ^^^ 2 ^ b) / 2 ^ b % 2 = 1) ∧ (i / 2 ^ b % 2 = 1 → 2 ^ b + i < 64 → (2 ^ b + i) / 2 ^ b % 2 ≠ 1) :=
  ⟨(qd_x1 b hb i hi).1, (qd_x1 b hb i hi).2, qd_x3 b hb i hi, qd_x4 b hb i hi, qd_x5 b hb i hi⟩
theorem qd_p64 : ∀ b, b < 6 → 2 ^ b < 64 := by decide +kernel
theorem qd_dep {r w : Int64} {f : Nat → Bool} {b : Nat} (hb : b < 6) (hr : ∀ i, i < 64 → qd_lb r i = f i) (hw : ∀ i, i < 64 → qd_lb w i = decide (i / 2 ^ b % 2 = 1)) : ((r &&& w).toUInt64 >>> (((1 : Int32) <<< (nI b &&& 31)).toInt64.toUInt64 &&& Int64.toUInt64 63)).toInt64 = r &&& (w ^^^ (-1)) ↔ qd_dx f b 64 = false := by
  rw [qd_t_p b hb]
  have p64 := qd_p64 b hb
  have L : ∀ i, qd_lb ((r &&& w).toUInt64 >>> ((nI (2 ^ b)).toInt64.toUInt64 &&& Int64.toUInt64 63)).toInt64 i = (qd_lb r (2 ^ b + i) && qd_lb w (2 ^ b + i)) := by
    intro i
    rw [qd_lb_ushr _ p64, qd_lb_and]
  constructor
  · intro h
    apply ts_nt
    intro z
    obtain ⟨i, hi, n⟩ := qd_dx_t.mp z
    have main : ∀ j, j < 64 → j / 2 ^ b % 2 ≠ 1 → f j = f (j ^^^ 2 ^ b) := by
      intro j hj hn
      obtain ⟨x1, _, _, x4, _⟩ := qd_x64 b hb j hj
      obtain ⟨y1, y2⟩ := x4 hn
      have t := L j
      rw [h, qd_lb_and, qd_lb_not _ hj, hw j hj, hr j hj, y1, hr _ x1, hw _ x1, decide_eq_false hn, decide_eq_true y2, Bool.not_false, Bool.and_true, Bool.and_true] at t
      exact t
    by_cases c : i / 2 ^ b % 2 = 1
    · obtain ⟨x1, x2, x3, _, _⟩ := qd_x64 b hb i hi
      have t := main _ x1 (x3 c)
      rw [x2] at t
      exact n t.symm
    · exact n (main i hi c)
  · intro h
    have main : ∀ j, j < 64 → f j = f (j ^^^ 2 ^ b) := by
      intro j hj
      apply Classical.byContradiction
      intro n
      rw [qd_dx_t.mpr ⟨j, hj, n⟩] at h
      exact absurd h (by decide)
    apply qd_lb_ext
    intro j hj
    obtain ⟨x1, _, _, x4, x5⟩ := qd_x64 b hb j hj
    rw [L, qd_lb_and, qd_lb_not _ hj, hw j hj, hr j hj]
    by_cases c : j / 2 ^ b % 2 = 1
    · rw [decide_eq_true c, Bool.not_true, Bool.and_false]
      rcases Nat.lt_or_ge (2 ^ b + j) 64 with z | z
      · rw [hw _ z, decide_eq_false (x5 c z), Bool.and_false]
      · rw [qd_lb_big z, Bool.false_and]
    · obtain ⟨y1, y2⟩ := x4 c
      rw [y1, hr _ x1, hw _ x1, decide_eq_true y2, decide_eq_false c, Bool.not_false, Bool.and_true, Bool.and_true]
      exact (main j hj).symm
theorem qy_dep_l {post : Int32 → SY → Prop} {T : Nat → Nat} {s b : Nat} (G : qd_G T s) (hb : b < 6) {K : Int32} {q : Nat → Int32} (h : ∀ W' a' o' pa', post (qd_bI (qd_dx (qd_ho T s) b 64)) (nI s, W', K, qd_t T, a', o', pa', q)) : ∀ p k, k + p = 64 → ∀ W a o pa, wY_depends_4 post (nI b) (p + 1) (qd_bI (qd_dx (qd_ho T s) b k)) (nI k) (nI s) W K (qd_t T) a o pa q := by
  intro p
  induction p with
  | zero =>
    intro k hk W a o pa
    have e : k = 64 := by omega
    subst e
    exact br_t (by decide) ⟨qy_bI _, h _ _ _ _⟩
  | succ p ih =>
    intro k hk W a o pa
    have r := ih (k + 1) (by omega)
    unfold qd_dx at r
    obtain ⟨x1, _⟩ := qd_x64 b hb k (by omega)
    refine br_f (nI_ge (b := 64) (by omega) (by decide)) (br_f (nI_pos (by omega)) (br_f (nI_nlt (a := 5) (by omega) (by decide)) ?_))
    rw [qd_t_p b hb, nx_xor]
    refine nm_e (qd_bI_br (fun z => ?_) (fun z => ?_))
    · rw [z] at r
      refine qy_holds G (by omega) (fun W1 a1 o1 p1 => qy_holds G x1 (fun W2 a2 o2 p2 => ?_))
      have r' := r W2 a2 o2 p2
      revert r'
      cases qd_ho T s k <;> cases qd_ho T s (k ^^^ 2 ^ b) <;> intro r'
      · exact br_t rfl (nm_r (nI_1 k) r')
      · exact br_f (by decide) (nm_r (nI_1 k) r')
      · exact br_f (by decide) (nm_r (nI_1 k) r')
      · exact br_t rfl (nm_r (nI_1 k) r')
    · rw [z] at r
      exact nm_r (nI_1 k) (r _ _ _ _)
theorem qy_dep_out {post : Int32 → SY → Prop} {x : Int32} (hx : x < 0 ∨ (6 : Int32) ≤ x ∧ (5 : Int32) < x) {S W K : Int32} {t a o pa q : Nat → Int32} (h : post 0 (S, W, K, t, a, o, pa, q)) : wpY_depends post (S, W, K, t, a, o, pa, q) x :=
  ⟨1, br_f (by decide) (br_c (fun _ => ⟨qy_b0.1, h⟩) (fun z => br_t (hx.resolve_left z).2 ⟨qy_b0.1, h⟩))⟩
theorem qd_bit (x : Int32) : (x < 0 ∨ (6 : Int32) ≤ x ∧ (5 : Int32) < x) ∨ ∃ i, i < 6 ∧ x = nI i := by
  by_cases h : x < 0
  · exact Or.inl (Or.inl h)
  · obtain ⟨j, hj, rfl⟩ := nI_of h
    rcases Nat.lt_or_ge j 6 with z | z
    · exact Or.inr ⟨j, z, rfl⟩
    · exact Or.inl (Or.inr ⟨nI_le (a := 6) z hj, nI_lt (a := 5) (by omega) hj⟩)
theorem qd_dx_n {f : Nat → Bool} {b : Nat} (h : ∀ i, f i = false) (n : Nat) : qd_dx f b n = false := by
  apply ts_nt
  intro z
  obtain ⟨i, _, c⟩ := qd_dx_t.mp z
  exact c (by rw [h, h])
theorem qd_dx_ext {f g : Nat → Bool} {b : Nat} (h : ∀ i, f i = g i) (n : Nat) : qd_dx f b n = qd_dx g b n := by
  rw [show f = g from funext h]
theorem i_vc_depends {k : Nat} {u : SX} {v : SY} (I : i_Rel k u v) (hk : k + 2 ≤ 1024) (v1 : Int32) : wpX_depends (fun r u' => wpY_depends (fun r' v' => r' = r ∧ i_Rel (k + 2) u' v') v v1) u v1 := by
  obtain ⟨T, s, K, L, d, o, e, m, W, a, o2, pa, q, rfl, rfl, G, hK, hq⟩ := I
  unfold wpX_depends
  rcases qd_bit v1 with hx | ⟨b, hb, rfl⟩
  · exact br_c (fun _ => qy_dep_out hx ⟨rfl, qd_rel G hK hq⟩) (fun z => br_t (hx.resolve_left z).1 (qy_dep_out hx ⟨rfl, qd_rel G hK hq⟩))
  · refine br_f (nI_pos (by omega)) (br_f (nI_ge (b := 6) hb (by decide)) (qx_complete G ?_))
    by_cases h0 : qd_op T s = 0
    · refine br_f (by rw [qd_c0_1 h0]; decide) (qx_models G h0 (fun r d' o' e' m' hr => qx_with hb (fun w hw => nm_e (nm_e ?_))))
      have key := qd_dep hb hr hw
      rw [qd_dx_ext (g := qd_ho T s) (fun i => (qd_ho_c h0 i).symm)] at key
      refine br_c (fun z => ⟨65, qy_dep_l G hb (fun _ _ _ _ => ⟨?_, qd_rel G hK hq⟩) 64 0 (by omega) _ _ _ _⟩) (fun z => ⟨65, qy_dep_l G hb (fun _ _ _ _ => ⟨?_, qd_rel G hK hq⟩) 64 0 (by omega) _ _ _ _⟩)
      · rw [key.mp z]; rfl
      · rw [ts_nf (fun y => z (key.mpr y))]; rfl
    · refine br_t (qd_c0_0 h0) ⟨65, qy_dep_l G hb (fun _ _ _ _ => ⟨?_, qd_rel G hK hq⟩) 64 0 (by omega) _ _ _ _⟩
      rw [qd_dx_n (qd_ho_n h0)]
      rfl
/-! keep -/
theorem qy_keep_l {post : Int32 → SY → Prop} {T : Nat → Nat} {s : Nat} (G : qd_G T s) (h0 : qd_op T s = 0) {W K : Int32} {a o : Nat → Int32} (ha : ∀ j, j < s → a j = nI (qd_D T j)) (h : ∀ pa' q', (∀ i, i < 64 → q' i = qd_bI (qd_tr T s i)) → post 1 (nI s, W, K, qd_t T, a, o, pa', q')) : ∀ p k, k + p = 64 → ∀ pa q, (∀ i, i < k → q i = qd_bI (qd_tr T s i)) → wY_keep_16 post (p + 1) (nI k) (nI s) W K (qd_t T) a o pa q := by
  intro p
  induction p with
  | zero =>
    intro k hk pa q hq
    have e : k = 64 := by omega
    subst e
    exact br_t (by decide) (h pa q hq)
  | succ p ih =>
    intro k hk pa q hq
    refine br_f (nI_ge (b := 64) (by omega) (by decide)) (qy_truth G h0 ha (fun pa' => ⟨vp_in_nI (by omega) (by omega), ?_⟩))
    rw [nI_clamp (by omega), qy_nb]
    refine nm_e (nm_r (nI_1 k) (ih (k + 1) (by omega) _ _ (fun i hi => ?_)))
    by_cases e : i = k
    · subst e; exact pk_us
    · rw [pk_un e]; exact hq i (by omega)
theorem i_vc_keep {k : Nat} {u : SX} {v : SY} (I : i_Rel k u v) (hk : k + 2 ≤ 1024) : wpX_keep (fun r u' => wpY_keep (fun r' v' => r' = r ∧ i_Rel (k + 2) u' v') v) u := by
  obtain ⟨T, s, K, L, d, o, e, m, W, a, o2, pa, q, rfl, rfl, G, hK, hq⟩ := I
  unfold wpX_keep
  refine qx_complete G ?_
  by_cases h0 : qd_op T s = 0
  · refine br_f (by rw [qd_c0_1 h0]; decide) (qx_models G h0 (fun r d' o' e' m' hr => ?_))
    unfold wpY_keep
    refine qy_complete G (fun a' o' ha => br_f (by rw [qd_c0_1 h0]; decide) ⟨65, qy_keep_l G h0 ha (fun pa' q' hq' => ⟨rfl, qd_rel G (Or.inr rfl) (fun i hi => ?_)⟩) 64 0 (by omega) pa q (fun i hi => absurd hi (by omega))⟩)
    rw [hq' i hi, hr i hi]
  · refine br_t (qd_c0_0 h0) ?_
    unfold wpY_keep
    exact qy_complete G (fun a' o' ha => br_t (qd_c0_0 h0) ⟨rfl, qd_rel G hK hq⟩)
/-! impliesKept -/
def qd_al (f : Nat → Bool) : Nat → Bool
  | 0 => true
  | n + 1 => qd_al f n && f n
theorem qd_al_t {f : Nat → Bool} : ∀ {n : Nat}, qd_al f n = true ↔ ∀ i, i < n → f i = true
  | 0 => ⟨fun _ i hi => absurd hi (by omega), fun _ => rfl⟩
  | n + 1 => by
    unfold qd_al
    rw [Bool.and_eq_true, qd_al_t (n := n)]
    constructor
    · rintro ⟨h1, h2⟩ i hi
      by_cases e : i = n
      · subst e; exact h2
      · exact h1 i (by omega)
    · intro h
      exact ⟨fun i hi => h i (by omega), h n (by omega)⟩
theorem qy_imp_l {post : Int32 → SY → Prop} {T : Nat → Nat} {s : Nat} (G : qd_G T s) (h0 : qd_op T s = 0) {W K : Int32} {L : Int64} {a o q : Nat → Int32} (ha : ∀ j, j < s → a j = nI (qd_D T j)) (hq : ∀ i, i < 64 → q i = qd_bI (qd_lb L i)) (h : ∀ pa', post (qd_bI (qd_al (fun i => qd_lb L i || !qd_tr T s i) 64)) (nI s, W, K, qd_t T, a, o, pa', q)) : ∀ p k, k + p = 64 → ∀ pa, wY_impliesKept_22 post (p + 1) (qd_bI (qd_al (fun i => qd_lb L i || !qd_tr T s i) k)) (nI k) (nI s) W K (qd_t T) a o pa q := by
  intro p
  induction p with
  | zero =>
    intro k hk pa
    have e : k = 64 := by omega
    subst e
    exact br_t (by decide) ⟨qy_bI _, h _⟩
  | succ p ih =>
    intro k hk pa
    have r := ih (k + 1) (by omega)
    unfold qd_al at r
    refine br_f (nI_ge (b := 64) (by omega) (by decide)) (qd_bI_br (fun z => ?_) (fun z => ⟨vp_in_nI (by omega) (by omega), ?_⟩))
    · refine ⟨qy_bI _, ?_⟩
      have c : qd_al (fun i => qd_lb L i || !qd_tr T s i) 64 = false := by
        apply ts_nt
        intro y
        have y' := qd_al_t.mp y
        rw [qd_al_t.mpr (fun i hi => y' i (by omega))] at z
        exact absurd z (by decide)
      have t := h pa
      rw [c] at t
      rw [z]
      exact t
    · rw [z] at r
      rw [nI_clamp (by omega), hq k (by omega)]
      refine qd_bI_br (fun y => qy_truth G h0 ha (fun pa' => qd_bI_br (fun x => ?_) (fun x => ?_))) (fun y => ?_)
      · have r' := r pa'
        simp only [y, x] at r'
        exact nm_r (nI_1 k) r'
      · have r' := r pa'
        simp only [y, x] at r'
        exact nm_r (nI_1 k) r'
      · have r' := r pa
        simp only [y] at r'
        exact nm_r (nI_1 k) r'
theorem qy_imp_0 {post : Int32 → SY → Prop} {S W K : Int32} {t a o pa q : Nat → Int32} (h : post 0 (S, W, K, t, a, o, pa, q)) : ∃ n, wY_impliesKept_22 post n 0 0 S W K t a o pa q :=
  ⟨1, br_f (by decide) (br_t rfl ⟨qy_b0.1, h⟩)⟩
theorem qd_imp {r L : Int64} {f : Nat → Bool} (hr : ∀ i, i < 64 → qd_lb r i = f i) : r &&& (L ^^^ (-1)) = 0 ↔ qd_al (fun i => qd_lb L i || !f i) 64 = true := by
  rw [qd_al_t]
  constructor
  · intro h i hi
    have t := congrArg (fun x => qd_lb x i) h
    simp only [qd_lb_and, qd_lb_not _ hi, qd_lb_0, hr i hi] at t
    show (qd_lb L i || !f i) = true
    revert t
    cases qd_lb L i <;> cases f i <;> decide
  · intro h
    apply qd_lb_ext
    intro i hi
    have t : (qd_lb L i || !f i) = true := h i hi
    rw [qd_lb_and, qd_lb_not _ hi, qd_lb_0, hr i hi]
    revert t
    cases qd_lb L i <;> cases f i <;> decide
theorem i_vc_impliesKept {k : Nat} {u : SX} {v : SY} (I : i_Rel k u v) (hk : k + 2 ≤ 1024) : wpX_impliesKept (fun r u' => wpY_impliesKept (fun r' v' => r' = r ∧ i_Rel (k + 2) u' v') v) u := by
  obtain ⟨T, s, K, L, d, o, e, m, W, a, o2, pa, q, rfl, rfl, G, hK, hq⟩ := I
  unfold wpX_impliesKept
  rcases hK with hK | hK
  · subst hK
    refine br_t rfl ?_
    unfold wpY_impliesKept
    exact qy_complete G (fun a' o' ha => br_c (fun _ => qy_imp_0 ⟨rfl, qd_rel G (Or.inl rfl) hq⟩) (fun _ => br_t rfl (qy_imp_0 ⟨rfl, qd_rel G (Or.inl rfl) hq⟩)))
  · subst hK
    refine br_f (by decide) (qx_complete G ?_)
    by_cases h0 : qd_op T s = 0
    · refine br_f (by rw [qd_c0_1 h0]; decide) (qx_models G h0 (fun r d' o' e' m' hr => ?_))
      have key := qd_imp (L := L) hr
      have fin : ∀ u' x, (∀ W' a' o' pa', i_Rel (k + 2) u' (nI s, W', 1, qd_t T, a', o', pa', q)) → (x = qd_bI (qd_al (fun i => qd_lb L i || !qd_tr T s i) 64)) → wpY_impliesKept (fun r' v' => r' = x ∧ i_Rel (k + 2) u' v') (nI s, W, 1, qd_t T, a, o2, pa, q) := by
        intro u' x hu hx
        unfold wpY_impliesKept
        exact qy_complete G (fun a' o' ha => br_f (by rw [qd_c0_1 h0]; decide) (br_f (by decide) ⟨65, qy_imp_l G h0 ha hq (fun pa' => ⟨hx.symm, hu _ _ _ _⟩) 64 0 (by omega) pa⟩))
      refine br_c (fun z => fin _ _ (fun _ _ _ _ => qd_rel G (Or.inr rfl) hq) ?_) (fun z => fin _ _ (fun _ _ _ _ => qd_rel G (Or.inr rfl) hq) ?_)
      · rw [key.mp z]; rfl
      · rw [ts_nt (fun y => z (key.mpr y))]; rfl
    · refine br_t (qd_c0_0 h0) ?_
      unfold wpY_impliesKept
      exact qy_complete G (fun a' o' ha => br_t (qd_c0_0 h0) (qy_imp_0 ⟨rfl, qd_rel G (Or.inr rfl) hq⟩))
/-! agreeing -/
theorem qy_agr_l {post : Int32 → SY → Prop} {T : Nat → Nat} {s : Nat} (G : qd_G T s) (h0 : qd_op T s = 0) {W K : Int32} {L : Int64} {a o q : Nat → Int32} (ha : ∀ j, j < s → a j = nI (qd_D T j)) (hq : ∀ i, i < 64 → q i = qd_bI (qd_lb L i)) (h : ∀ pa', post (nI (qd_cn (fun i => qd_tr T s i == qd_lb L i) 64)) (nI s, W, K, qd_t T, a, o, pa', q)) : ∀ p k, k + p = 64 → ∀ pa, wY_agreeing_20 post (p + 1) (nI (qd_cn (fun i => qd_tr T s i == qd_lb L i) k)) (nI k) (nI s) W K (qd_t T) a o pa q := by
  intro p
  induction p with
  | zero =>
    intro k hk pa
    have e : k = 64 := by omega
    subst e
    exact br_t (by decide) (h pa)
  | succ p ih =>
    intro k hk pa
    refine br_f (nI_ge (b := 64) (by omega) (by decide)) (qy_truth G h0 ha (fun pa' => ⟨vp_in_nI (by omega) (by omega), ?_⟩))
    rw [nI_clamp (by omega), hq k (by omega)]
    have r := ih (k + 1) (by omega) pa'
    unfold qd_cn at r
    revert r
    cases e1 : qd_tr T s k <;> cases e2 : qd_lb L k <;> intro r
    · exact br_t rfl (nm_r (nI_1 _) (nm_r (nI_1 k) r))
    · exact br_f (by decide) (nm_r (Int32.add_zero _) (nm_r (nI_1 k) r))
    · exact br_f (by decide) (nm_r (Int32.add_zero _) (nm_r (nI_1 k) r))
    · exact br_t rfl (nm_r (nI_1 _) (nm_r (nI_1 k) r))
theorem i_vc_agreeing {k : Nat} {u : SX} {v : SY} (I : i_Rel k u v) (hk : k + 2 ≤ 1024) : wpX_agreeing (fun r u' => wpY_agreeing (fun r' v' => r' = r ∧ i_Rel (k + 2) u' v') v) u := by
  obtain ⟨T, s, K, L, d, o, e, m, W, a, o2, pa, q, rfl, rfl, G, hK, hq⟩ := I
  unfold wpX_agreeing
  rcases hK with hK | hK
  · subst hK
    refine br_t rfl ?_
    unfold wpY_agreeing
    exact qy_complete G (fun a' o' ha => br_c (fun _ => ⟨rfl, qd_rel G (Or.inl rfl) hq⟩) (fun _ => br_t rfl ⟨rfl, qd_rel G (Or.inl rfl) hq⟩))
  · subst hK
    refine br_f (by decide) (qx_complete G ?_)
    by_cases h0 : qd_op T s = 0
    · refine br_f (by rw [qd_c0_1 h0]; decide) (qx_models G h0 (fun r d' o' e' m' hr => nm_e (qx_count ?_)))
      unfold wpY_agreeing
      refine qy_complete G (fun a' o' ha => br_f (by rw [qd_c0_1 h0]; decide) (br_f (by decide) ⟨65, qy_agr_l G h0 ha hq (fun pa' => ⟨congrArg nI ?_, qd_rel G (Or.inr rfl) hq⟩) 64 0 (by omega) pa⟩))
      refine qd_cn_ext (fun i hi => ?_)
      rw [qd_lb_not _ hi, qd_lb_xor, hr i hi]
      cases qd_tr T s i <;> cases qd_lb L i <;> rfl
    · refine br_t (qd_c0_0 h0) ?_
      unfold wpY_agreeing
      exact qy_complete G (fun a' o' ha => br_t (qd_c0_0 h0) ⟨rfl, qd_rel G (Or.inr rfl) hq⟩)
