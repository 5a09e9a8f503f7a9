/-! the methods that ask for the truth -/
def qd_ho (T : Nat → Nat) (s i : Nat) : Bool := decide (qd_op T s = 0) && qd_tr T s i
theorem qd_ho_c {T : Nat → Nat} {s : Nat} (h : qd_op T s = 0) (i : Nat) : qd_ho T s i = qd_tr T s i := by
  unfold qd_ho
  rw [decide_eq_true h, Bool.true_and]
theorem qd_ho_n {T : Nat → Nat} {s : Nat} (h : ¬ qd_op T s = 0) (i : Nat) : qd_ho T s i = false := by
  unfold qd_ho
  rw [decide_eq_false h, Bool.false_and]
theorem qd_c0_1 {n : Nat} (h : n = 0) : qd_c0 n = 1 := if_pos h
theorem qd_c0_0 {n : Nat} (h : ¬ n = 0) : qd_c0 n = 0 := if_neg h
theorem qd_bI_br {b : Bool} {A B : Prop} (h1 : b = false → A) (h2 : b = true → B) : (qd_bI b = 0 → A) ∧ (¬ qd_bI b = 0 → B) := by
  cases b
  · exact br_t rfl (h1 rfl)
  · exact br_f (by decide) (h2 rfl)
theorem qy_holds {post : Int32 → SY → Prop} {T : Nat → Nat} {s : Nat} (G : qd_G T s) {W K : Int32} {a o pa q : Nat → Int32} {i : Nat} (hi : i < 64) (h : ∀ W' a' o' pa', post (qd_bI (qd_ho T s i)) (nI s, W', K, qd_t T, a', o', pa', q)) : wpY_holds post (nI s, W, K, qd_t T, a, o, pa, q) (nI i) := by
  unfold wpY_holds
  refine qy_read G (fun a' o' ha _ => ?_)
  by_cases h0 : qd_op T s = 0
  · refine br_f (by rw [qd_c0_1 h0]; decide) (br_f (nI_pos (by omega)) (br_f (nI_nlt (a := 63) (by omega) (by decide)) (qy_truth G h0 ha (fun pa' => ?_))))
    have r := h (qd_c0 (qd_op T s)) a' o' pa'
    rw [qd_ho_c h0] at r
    refine qd_bI_br (fun z => ?_) (fun z => ?_)
    · rw [z] at r; exact r
    · rw [z] at r; exact r
  · refine br_t (qd_c0_0 h0) ?_
    have r := h (qd_c0 (qd_op T s)) a' o' pa
    rw [qd_ho_n h0] at r
    exact r
theorem qy_holds_out {post : Int32 → SY → Prop} {T : Nat → Nat} {s : Nat} (G : qd_G T s) {W K x : Int32} {a o pa q : Nat → Int32} (hx : x < 0 ∨ (63 : Int32) < x) (h : ∀ W' a' o' pa', post 0 (nI s, W', K, qd_t T, a', o', pa', q)) : wpY_holds post (nI s, W, K, qd_t T, a, o, pa, q) x := by
  unfold wpY_holds
  refine qy_read G (fun a' o' ha _ => ?_)
  exact br_c (fun _ => h _ _ _ _) (fun _ => br_c (fun _ => h _ _ _ _) (fun z => br_t (hx.resolve_left z) (h _ _ _ _)))
/-- an interpretation, or not -/
theorem qd_int (x : Int32) : (x < 0 ∨ (64 : Int32) ≤ x ∧ (63 : Int32) < x) ∨ ∃ i, i < 64 ∧ x = nI i := by
  by_cases h : x < 0
  · exact Or.inl (Or.inl h)
  · obtain ⟨j, hj, rfl⟩ := nI_of h
    rcases Nat.lt_or_ge j 64 with z | z
    · exact Or.inr ⟨j, z, rfl⟩
    · exact Or.inl (Or.inr ⟨nI_le (a := 64) z hj, nI_lt (a := 63) (by omega) hj⟩)
theorem qx_isi0 {post : Int32 → Prop} {x : Int32} (hx : x < 0 ∨ (64 : Int32) ≤ x ∧ (63 : Int32) < x) (h : post 0) : wpX_isInterpretation post x :=
  br_c (fun _ => h) (fun z => br_t (hx.resolve_left z).1 h)
theorem qx_isi1 {post : Int32 → Prop} {i : Nat} (hi : i < 64) (h : post 1) : wpX_isInterpretation post (nI i) :=
  br_f (nI_pos (by omega)) (br_f (nI_ge (b := 64) hi (by decide)) h)
theorem i_vc_holds {k : Nat} {u : SX} {v : SY} (I : i_Rel k u v) (hk : k + 2 ≤ 1024) (v1 : Int32) : wpX_holds (fun r u' => wpY_holds (fun r' v' => r' = r ∧ i_Rel (k + 2) u' v') v v1) u v1 := by
  obtain ⟨T, s, K, L, d, o, e, m, W, a, o2, pa, q, rfl, rfl, G, hK, hq⟩ := I
  unfold wpX_holds
  rcases qd_int v1 with hx | ⟨i, hi, rfl⟩
  · exact qx_isi0 hx (br_t rfl (qy_holds_out G (hx.imp id And.right) (fun _ _ _ _ => ⟨rfl, qd_rel G hK hq⟩)))
  · refine qx_isi1 hi (br_f (by decide) (qx_complete G ?_))
    by_cases h0 : qd_op T s = 0
    · refine br_f (by rw [qd_c0_1 h0]; decide) (qx_models G h0 (fun r d' o' e' m' hr => qx_contains hi ⟨qy_bI _, ?_⟩))
      refine qy_holds G hi (fun _ _ _ _ => ⟨?_, qd_rel G hK hq⟩)
      rw [qd_ho_c h0, hr i hi]
    · refine br_t (qd_c0_0 h0) (qy_holds G hi (fun _ _ _ _ => ⟨?_, qd_rel G hK hq⟩))
      rw [qd_ho_n h0]
      rfl
/-! models, valid -/
theorem qy_models_l {post : Int32 → SY → Prop} {T : Nat → Nat} {s : Nat} (G : qd_G T s) (h0 : qd_op T s = 0) {W K : Int32} {a o q : Nat → Int32} (ha : ∀ j, j < s → a j = nI (qd_D T j)) (h : ∀ pa', post (nI (qd_cn (qd_tr T s) 64)) (nI s, W, K, qd_t T, a, o, pa', q)) : ∀ p k, k + p = 64 → ∀ pa, wY_models_13 post (p + 1) (nI (qd_cn (qd_tr T s) k)) (nI k) (nI s) W K (qd_t T) a o pa q := by
  intro p
  induction p with
  | zero =>
    intro k hk pa
    have e : k = 64 := by omega
    subst e
    exact br_t (by decide) (h pa)
  | succ p ih =>
    intro k hk pa
    refine br_f (nI_ge (b := 64) (by omega) (by decide)) (qy_truth G h0 ha (fun pa' => ?_))
    have r := ih (k + 1) (by omega) pa'
    unfold qd_cn at r
    refine qd_bI_br (fun z => ?_) (fun z => ?_)
    · rw [z] at r
      exact nm_r (Int32.add_zero _) (nm_r (nI_1 k) r)
    · rw [z] at r
      exact nm_r (nI_1 _) (nm_r (nI_1 k) r)
theorem qy_models {post : Int32 → SY → Prop} {T : Nat → Nat} {s : Nat} (G : qd_G T s) {W K : Int32} {a o pa q : Nat → Int32} (h1 : qd_op T s = 0 → ∀ W' a' o' pa', post (nI (qd_cn (qd_tr T s) 64)) (nI s, W', K, qd_t T, a', o', pa', q)) (h2 : ¬ qd_op T s = 0 → ∀ W' a' o' pa', post (-1) (nI s, W', K, qd_t T, a', o', pa', q)) : wpY_models post (nI s, W, K, qd_t T, a, o, pa, q) := by
  unfold wpY_models
  refine qy_complete G (fun a' o' ha => ?_)
  by_cases h0 : qd_op T s = 0
  · exact br_f (by rw [qd_c0_1 h0]; decide) ⟨65, qy_models_l G h0 ha (fun _ => h1 h0 _ _ _ _) 64 0 (by omega) pa⟩
  · exact br_t (qd_c0_0 h0) (h2 h0 _ _ _ _)
theorem i_vc_models {k : Nat} {u : SX} {v : SY} (I : i_Rel k u v) (hk : k + 2 ≤ 1024) : wpX_models (fun r u' => wpY_models (fun r' v' => r' = r ∧ i_Rel (k + 2) u' v') v) u := by
  obtain ⟨T, s, K, L, d, o, e, m, W, a, o2, pa, q, rfl, rfl, G, hK, hq⟩ := I
  unfold wpX_models
  refine qx_complete G ?_
  by_cases h0 : qd_op T s = 0
  · refine br_f (by rw [qd_c0_1 h0]; decide) (qx_models G h0 (fun r d' o' e' m' hr => qx_count (qy_models G (fun _ _ _ _ _ => ⟨?_, qd_rel G hK hq⟩) (fun z => absurd h0 z))))
    rw [qd_cn_ext hr]
  · exact br_t (qd_c0_0 h0) (qy_models G (fun z => absurd z h0) (fun _ _ _ _ _ => ⟨rfl, qd_rel G hK hq⟩))
theorem i_vc_valid {k : Nat} {u : SX} {v : SY} (I : i_Rel k u v) (hk : k + 2 ≤ 1024) : wpX_valid (fun r u' => wpY_valid (fun r' v' => r' = r ∧ i_Rel (k + 2) u' v') v) u := by
  obtain ⟨T, s, K, L, d, o, e, m, W, a, o2, pa, q, rfl, rfl, G, hK, hq⟩ := I
  unfold wpX_valid
  refine qx_complete G ?_
  by_cases h0 : qd_op T s = 0
  · refine br_f (by rw [qd_c0_1 h0]; decide) (qx_models G h0 (fun r d' o' e' m' hr => ?_))
    have cl := qd_cn_le (qd_tr T s) 64
    have key : r = -1 ↔ nI (qd_cn (qd_tr T s) 64) = 64 := by
      rw [show (64 : Int32) = nI 64 from rfl, nI_eq (by omega) (by omega), qd_cn_all]
      constructor
      · intro z i hi
        rw [← hr i hi, z, qd_lb_m1 i hi]
      · intro z
        apply qd_lb_ext
        intro i hi
        rw [hr i hi, z i hi, qd_lb_m1 i hi]
    have fin : ∀ u' x, (∀ W' a' o' pa', i_Rel (k + 2) u' (nI s, W', K, qd_t T, a', o', pa', q)) → (x = if r = -1 then (1 : Int32) else 0) → wpY_valid (fun r' v' => r' = x ∧ i_Rel (k + 2) u' v') (nI s, W, K, qd_t T, a, o2, pa, q) := by
      intro u' x hu hx
      unfold wpY_valid
      refine qy_models G (fun _ W' a' o' pa' => br_c (fun z => ⟨?_, hu _ _ _ _⟩) (fun z => ⟨?_, hu _ _ _ _⟩)) (fun z => absurd h0 z)
      · rw [hx, if_pos (key.mpr z)]
      · rw [hx, if_neg (fun y => z (key.mp y))]
    refine br_c (fun z => fin _ _ (fun _ _ _ _ => qd_rel G hK hq) ?_) (fun z => fin _ _ (fun _ _ _ _ => qd_rel G hK hq) ?_)
    · rw [if_pos z]
    · rw [if_neg z]
  · refine br_t (qd_c0_0 h0) ?_
    unfold wpY_valid
    exact qy_models G (fun z => absurd z h0) (fun _ _ _ _ _ => br_f (by decide) ⟨rfl, qd_rel G hK hq⟩)
/-! modelFrom -/
def qd_ff (f : Nat → Bool) : Nat → Nat → Int32
  | 0, _ => -1
  | p + 1, k => if f k then nI k else qd_ff f p (k + 1)
theorem qd_ff_ext {f g : Nat → Bool} : ∀ p k, (∀ i, i < k + p → f i = g i) → qd_ff f p k = qd_ff g p k
  | 0, _, _ => rfl
  | p + 1, k, h => by
    unfold qd_ff
    rw [h k (by omega), qd_ff_ext p (k + 1) (fun i hi => h i (by omega))]
theorem qd_ff_n {f : Nat → Bool} (h : ∀ i, f i = false) : ∀ p k, qd_ff f p k = -1
  | 0, _ => rfl
  | p + 1, k => by
    unfold qd_ff
    rw [h k, qd_ff_n h p (k + 1)]
    rfl
theorem qx_from_l {post : Int32 → SX → Prop} {x : Int64} {S K : Int32} {L : Int64} {t d o e : Nat → Int32} {m : Nat → Int64} : ∀ p k, k + p = 64 → post (qd_ff (qd_lb x) p k) (S, K, L, t, d, o, e, m) → wX_modelFrom_24 post x S K L t d o e m (p + 1) (nI k) := by
  intro p
  induction p with
  | zero =>
    intro k hk h
    have e : k = 64 := by omega
    subst e
    exact br_t (by decide) h
  | succ p ih =>
    intro k hk h
    refine br_f (nI_ge (b := 64) (by omega) (by decide)) (qx_contains (by omega) ?_)
    unfold qd_ff at h
    refine qd_bI_br (fun z => ?_) (fun z => ?_)
    · rw [z] at h
      exact nm_r (nI_1 k) (ih (k + 1) (by omega) h)
    · rw [z] at h
      exact h
theorem qy_from_l {post : Int32 → SY → Prop} {T : Nat → Nat} {s : Nat} (G : qd_G T s) {K : Int32} {q : Nat → Int32} : ∀ p k, k + p = 64 → ∀ W a o pa, (∀ W' a' o' pa', post (qd_ff (qd_ho T s) p k) (nI s, W', K, qd_t T, a', o', pa', q)) → wY_modelFrom_2 post (p + 1) (nI k) (nI s) W K (qd_t T) a o pa q := by
  intro p
  induction p with
  | zero =>
    intro k hk W a o pa h
    have e : k = 64 := by omega
    subst e
    exact br_f (by decide) (br_t (by decide) (h _ _ _ _))
  | succ p ih =>
    intro k hk W a o pa h
    refine br_f (nI_pos (by omega)) (br_f (nI_nlt (a := 63) (by omega) (by decide)) (qy_holds G (by omega) (fun W' a' o' pa' => ?_)))
    unfold qd_ff at h
    refine qd_bI_br (fun z => ?_) (fun z => ?_)
    · rw [z] at h
      exact nm_r (nI_1 k) (ih (k + 1) (by omega) _ _ _ _ h)
    · rw [z] at h
      exact h _ _ _ _
theorem i_vc_modelFrom {k : Nat} {u : SX} {v : SY} (I : i_Rel k u v) (hk : k + 2 ≤ 1024) (v1 : Int32) : wpX_modelFrom (fun r u' => wpY_modelFrom (fun r' v' => r' = r ∧ i_Rel (k + 2) u' v') v v1) u v1 := by
  obtain ⟨T, s, K, L, d, o, e, m, W, a, o2, pa, q, rfl, rfl, G, hK, hq⟩ := I
  unfold wpX_modelFrom
  rcases qd_int v1 with hx | ⟨i, hi, rfl⟩
  · exact qx_isi0 hx (br_t rfl ⟨1, br_c (fun _ => ⟨rfl, qd_rel G hK hq⟩) (fun z => br_t (hx.resolve_left z).2 ⟨rfl, qd_rel G hK hq⟩)⟩)
  · refine qx_isi1 hi (br_f (by decide) (qx_complete G ?_))
    by_cases h0 : qd_op T s = 0
    · refine br_f (by rw [qd_c0_1 h0]; decide) (qx_models G h0 (fun r d' o' e' m' hr => ⟨64 - i + 1, qx_from_l (64 - i) i (by omega) ⟨64 - i + 1, qy_from_l G (64 - i) i (by omega) _ _ _ _ (fun _ _ _ _ => ⟨?_, qd_rel G hK hq⟩)⟩⟩))
      refine qd_ff_ext _ _ (fun j hj => ?_)
      rw [qd_ho_c h0, hr j (by omega)]
    · refine br_t (qd_c0_0 h0) ⟨64 - i + 1, qy_from_l G (64 - i) i (by omega) _ _ _ _ (fun _ _ _ _ => ⟨?_, qd_rel G hK hq⟩)⟩
      exact qd_ff_n (qd_ho_n h0) _ _
