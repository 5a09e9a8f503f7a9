/-! the component's small methods -/
/-- what both sides know of the tokens -/
def qd_G (T : Nat → Nat) (s : Nat) : Prop := s ≤ 13 ∧ (∀ k, T k < 26) ∧ (∀ k, k < s → 0 < qd_op T k) ∧ qd_qc T s ≤ 4
theorem qx_parts {post : Int32 → Prop} {x : Nat} (hx : x < 26) (h : post (nI (qd_ar x))) : wpX_parts post (nI x) := by
  refine pk_lt x 6 (fun h6 => ?_) (fun h6 => ?_)
  · refine pk_eq x 1 (fun e => ?_) (fun e1 => ?_)
    · subst e; exact h
    · refine pk_eq x 2 (fun e => ?_) (fun e2 => ?_)
      · subst e; exact h
      · refine pk_eq x 3 (fun e => ?_) (fun e3 => ?_)
        · subst e; exact h
        · have e : qd_ar x = 1 := by unfold qd_ar; rw [if_pos h6, if_neg (by omega)]
          rw [e] at h; exact h
  · have e : qd_ar x = 0 := by unfold qd_ar; rw [if_neg (by omega)]
    rw [e] at h; exact h
theorem qx_isq {post : Int32 → Prop} {x : Nat} (hx : x < 26) (h : post (nI (qd_q x))) : wpX_isQuantifier post (nI x) := by
  refine pk_eq x 4 (fun e => ?_) (fun e1 => ?_)
  · subst e; exact h
  · refine pk_eq x 5 (fun e => ?_) (fun e2 => ?_)
    · subst e; exact h
    · have e : qd_q x = 0 := by unfold qd_q; rw [if_neg (by omega)]
      rw [e] at h; exact h
def qd_c0 (n : Nat) : Int32 := if n = 0 then 1 else 0
theorem qx_complete_l {post : Int32 → Prop} {T : Nat → Nat} {s : Nat} (G : qd_G T s) {K : Int32} {L : Int64} {d o e : Nat → Int32} {m : Nat → Int64} (h : post (qd_c0 (qd_op T s))) : ∀ p k, k + p = s → wX_complete_4 post (nI s) K L (qd_t T) d o e m (p + 1) (nI (qd_op T k)) (nI k) := by
  obtain ⟨hs, h26, H, _⟩ := G
  intro p
  induction p with
  | zero =>
    intro k hk
    have e : k = s := by omega
    subst e
    have b := qd_op_le H
    refine br_t (nI_le (Nat.le_refl _) (by omega)) (pk_eq (qd_op T k) 0 (fun z => ?_) (fun z => ?_))
    · rw [z] at h; exact h
    · rw [qd_c0, if_neg z] at h; exact h
  | succ p ih =>
    intro k hk
    have b := qd_op_s (H k (by omega))
    have c := H k (by omega)
    have g := qd_op_le (T := T) (k := k) (fun j hj => H j (by omega))
    refine br_f (nI_ge (by omega) (by omega)) ⟨vp_in_nI (by omega) (by omega), ?_⟩
    rw [nI_clamp (by omega)]
    refine qx_parts (h26 k) ?_
    refine nm_r (e' := nI (qd_op T (k + 1))) ?_ (nm_r (nI_1 k) (ih (k + 1) (by omega)))
    rw [show (1 : Int32) = nI 1 from rfl, pk_sub (by omega), nI_add]
    exact congrArg nI (by omega)
theorem qx_complete {post : Int32 → Prop} {T : Nat → Nat} {s : Nat} (G : qd_G T s) {K : Int32} {L : Int64} {d o e : Nat → Int32} {m : Nat → Int64} (h : post (qd_c0 (qd_op T s))) : wpX_complete post (nI s, K, L, qd_t T, d, o, e, m) :=
  ⟨s + 1, qx_complete_l G h s 0 (by omega)⟩
theorem qx_quant_l {post : Int32 → Prop} {T : Nat → Nat} {s : Nat} (G : qd_G T s) {K : Int32} {L : Int64} {d o e : Nat → Int32} {m : Nat → Int64} (h : post (nI (qd_qc T s))) : ∀ p k, k + p = s → wX_quantifiers_4 post (nI s) K L (qd_t T) d o e m (p + 1) (nI (qd_qc T k)) (nI k) := by
  obtain ⟨hs, h26, H, _⟩ := G
  intro p
  induction p with
  | zero =>
    intro k hk
    have e : k = s := by omega
    subst e
    exact br_t (nI_le (Nat.le_refl _) (by omega)) h
  | succ p ih =>
    intro k hk
    refine br_f (nI_ge (by omega) (by omega)) ⟨vp_in_nI (by omega) (by omega), ?_⟩
    rw [nI_clamp (by omega)]
    refine qx_isq (h26 k) ?_
    have r := ih (k + 1) (by omega)
    have q := qd_q_le (T k)
    refine pk_eq (qd_q (T k)) 0 (fun z => nm_r (nI_1 k) ?_) (fun z => nm_r (e' := nI (qd_qc T (k + 1))) ?_ (nm_r (nI_1 k) r))
    · rw [qd_qc, z] at r; exact r
    · rw [nI_1, qd_qc]; exact congrArg nI (by omega)
theorem qx_quant {post : Int32 → Prop} {T : Nat → Nat} {s : Nat} (G : qd_G T s) {K : Int32} {L : Int64} {d o e : Nat → Int32} {m : Nat → Int64} (h : post (nI (qd_qc T s))) : wpX_quantifiers post (nI s, K, L, qd_t T, d, o, e, m) :=
  ⟨s + 1, qx_quant_l G h s 0 (by omega)⟩
/-! the depths -/
theorem qx_push {post : SX → Prop} {J : Int32 → Int32 → (Nat → Int32) → (Nat → Int32) → (Nat → Int32) → (Nat → Int32) → (Nat → Int64) → Prop} {x2 S K : Int32} {L : Int64} {t dp e : Nat → Int32} {m : Nat → Int64} {dd : Nat} : ∀ (p : Nat) (l : List Nat) (o : Nat → Int32), l.length + p ≤ 14 → qd_St o l → (∀ o', qd_St o' (List.replicate p dd ++ l) → J (nI (l.length + p)) (x2 + 1) t dp o' e m) → wX_findDepths_74 post J x2 (nI dd) S K L (p + 1) (nI l.length) (nI p) t dp o e m := by
  intro p
  induction p with
  | zero =>
    intro l o hl ho h
    exact br_t (nI_le (Nat.le_refl 0) (by decide)) (nm_e (h o ho))
  | succ p ih =>
    intro l o hl ho h
    refine br_f (nI_nle (by omega) (by omega)) ⟨vp_in_nI (by omega) (by omega), ?_⟩
    rw [nI_clamp (by omega)]
    refine nm_e (nm_r (nI_1 _) (nm_r (pk_m1 p) ?_))
    refine ih (dd :: l) _ (by rw [List.length_cons]; omega) (qd_St_p ho) (fun o' ho' => ?_)
    rw [qd_rep] at ho'
    have a := h o' ho'
    rw [List.length_cons, show l.length + 1 + p = l.length + (p + 1) by omega]
    exact a
theorem qx_depth_l {post : SX → Prop} {T : Nat → Nat} {s : Nat} (G : qd_G T s) {K : Int32} {L : Int64} {e : Nat → Int32} {m : Nat → Int64} (h : ∀ d' o', (∀ j, j < s → d' j = nI (qd_D T j)) → (0 < qd_op T s → d' s = nI (qd_D T s)) → post (nI s, K, L, qd_t T, d', o', e, m)) : ∀ p k, k + p = s → ∀ d o, qd_St o (qd_os T k) → (∀ j, j < k → d j = nI (qd_D T j)) → wX_findDepths_11 post (nI s) K L (p + 1) (nI (qd_op T k)) (nI k) (qd_t T) d o e m := by
  obtain ⟨hs, h26, H, _⟩ := G
  intro p
  induction p with
  | zero =>
    intro k hk d o ho hd
    have e : k = s := by omega
    subst e
    have b := qd_op_le H
    refine br_t (nI_le (Nat.le_refl _) (by omega)) (pk_le (qd_op T k) 0 (fun z => ?_) (fun z => ?_))
    · exact h d o hd (fun z' => absurd z' (by omega))
    · obtain ⟨r, er, lr⟩ := qd_os_cons z
      rw [er] at ho
      rw [lr, nI_pred]
      refine ⟨vp_in_nI (by omega) (by omega), vp_in_nI (by omega) (by omega), nm_e ?_⟩
      rw [nI_clamp (by omega), nI_clamp (by omega), ho.1]
      exact h _ _ (fun j hj => by rw [pk_un (by omega)]; exact hd j hj) (fun _ => pk_us)
  | succ p ih =>
    intro k hk d o ho hd
    have c := H k (by omega)
    have b := qd_op_s c
    have g := qd_op_le (T := T) (k := k) (fun j hj => H j (by omega))
    have g' := qd_op_le (T := T) (k := k + 1) (fun j hj => H j (by omega))
    obtain ⟨r, er, lr⟩ := qd_os_cons c
    rw [er] at ho
    refine br_f (nI_ge (by omega) (by omega)) (br_f (nI_nle (by omega) (by omega)) ?_)
    rw [lr, nI_pred, nI_clamp (by omega : r.length < 2 ^ 31), nI_clamp (by omega : k < 2 ^ 31), ho.1]
    refine ⟨vp_in_nI (by omega) (by omega), nm_e ⟨vp_in_nI (by omega) (by omega), nm_e ⟨vp_in_nI (by omega) (by omega), ?_⟩⟩⟩
    refine qx_isq (h26 k) ?_
    have fin : wX_findDepths_58 post (wX_findDepths_11 post (nI s) K L (p + 1)) (nI (r.length + 1)) (nI k) (nI (qd_D T k + qd_q (T k))) (nI s) K L (qd_t T) (upd d k (nI (qd_D T k))) o e m := by
      refine nm_r (pk_m1 _) ⟨vp_in_nI (by omega) (by omega), ?_⟩
      rw [nI_clamp (by omega)]
      refine qx_parts (h26 k) ⟨_, qx_push _ r o (by omega) ho.2 (fun o' ho' => ?_)⟩
      rw [← qd_os_s er] at ho'
      rw [nI_1, show r.length + qd_ar (T k) = qd_op T (k + 1) by omega]
      refine ih (k + 1) (by omega) _ o' ho' (fun j hj => ?_)
      by_cases z : j = k
      · subst z; exact pk_us
      · rw [pk_un z]; exact hd j (by omega)
    have q := qd_q_le (T k)
    refine pk_eq (qd_q (T k)) 0 (fun z => ?_) (fun z => ?_)
    · rw [z] at fin; exact fin
    · rw [nI_1]
      rw [show qd_q (T k) = 1 by omega] at fin
      exact fin
theorem qx_depths {post : SX → Prop} {T : Nat → Nat} {s : Nat} (G : qd_G T s) {K : Int32} {L : Int64} {d o e : Nat → Int32} {m : Nat → Int64} (h : ∀ d' o', (∀ j, j < s → d' j = nI (qd_D T j)) → (0 < qd_op T s → d' s = nI (qd_D T s)) → post (nI s, K, L, qd_t T, d', o', e, m)) : wpX_findDepths post (nI s, K, L, qd_t T, d, o, e, m) :=
  nm_e ⟨s + 1, qx_depth_l G h s 0 (by omega) d _ ⟨pk_us, trivial⟩ (fun j hj => absurd hj (by omega))⟩
/-! sets of interpretations -/
theorem qx_with_l {post : Int64 → Prop} {b : Nat} (hb : b < 6) (h : ∀ r, (∀ i, i < 64 → qd_lb r i = decide (i / 2 ^ b % 2 = 1)) → post r) : ∀ p k, k + p = 64 → ∀ x, (∀ i, i < k → qd_lb x i = decide (i / 2 ^ b % 2 = 1)) → (∀ i, k ≤ i → qd_lb x i = false) → wX_interpretationsWithBit_4 post (nI b) (p + 1) x (nI k) := by
  intro p
  induction p with
  | zero =>
    intro k hk x hx _
    have e : k = 64 := by omega
    subst e
    exact br_t (nI_le (a := 64) (Nat.le_refl _) (by omega)) (h x hx)
  | succ p ih =>
    intro k hk x hx hz
    refine br_f (nI_ge (b := 64) (by omega) (by omega)) ?_
    rw [qd_th (by omega)]
    refine pk_eq (k / 2 ^ b % 2) 1 (fun z => nm_e (nm_r (nI_1 k) (ih (k + 1) (by omega) _ ?_ ?_))) (fun z => nm_r (nI_1 k) (ih (k + 1) (by omega) x ?_ ?_))
    · intro i hi
      rw [qd_lb_or, qd_lb_shl (by omega) (by omega)]
      by_cases w : i = k
      · subst w; rw [decide_eq_true rfl, Bool.or_true, decide_eq_true z]
      · rw [decide_eq_false w, Bool.or_false]; exact hx i (by omega)
    · intro i hi
      rw [qd_lb_or, hz i (by omega)]
      rcases Nat.lt_or_ge i 64 with w | w
      · rw [qd_lb_shl (by omega) w, decide_eq_false (by omega)]; rfl
      · rw [qd_lb_big w]; rfl
    · intro i hi
      by_cases w : i = k
      · subst w; rw [hz i (Nat.le_refl _), decide_eq_false z]
      · exact hx i (by omega)
    · intro i hi
      exact hz i (by omega)
theorem qx_with {post : Int64 → Prop} {b : Nat} (hb : b < 6) (h : ∀ r, (∀ i, i < 64 → qd_lb r i = decide (i / 2 ^ b % 2 = 1)) → post r) : wpX_interpretationsWithBit post (nI b) :=
  ⟨65, qx_with_l hb h 64 0 (by omega) 0 (fun i hi => absurd hi (by omega)) (fun i _ => qd_lb_0 i)⟩
theorem qx_contains {post : Int32 → Prop} {x : Int64} {i : Nat} (hi : i < 64) (h : post (qd_bI (qd_lb x i))) : wpX_contains post x (nI i) := by
  unfold wpX_contains
  rw [qd_lb_c x hi]
  refine br_c (fun z => ?_) (fun z => ?_)
  · rw [z] at h; exact h
  · rw [ts_nt z] at h; exact h
theorem qx_count_l {post : Int32 → Prop} {x : Int64} (h : post (nI (qd_cn (qd_lb x) 64))) : ∀ p k, k + p = 64 → wX_count_4 post x (p + 1) (nI (qd_cn (qd_lb x) k)) (nI k) := by
  intro p
  induction p with
  | zero =>
    intro k hk
    have e : k = 64 := by omega
    subst e
    exact br_t (nI_le (a := 64) (Nat.le_refl _) (by omega)) h
  | succ p ih =>
    intro k hk
    refine br_f (nI_ge (b := 64) (by omega) (by omega)) ?_
    refine qx_contains (by omega) ?_
    have r := ih (k + 1) (by omega)
    unfold qd_cn at r
    cases e : qd_lb x k with
    | true =>
      rw [e] at r
      exact br_f (by decide) (nm_r (nI_1 _) (nm_r (nI_1 _) r))
    | false =>
      rw [e] at r
      exact br_t (by decide) (nm_r (nI_1 _) r)
theorem qx_count {post : Int32 → Prop} {x : Int64} (h : post (nI (qd_cn (qd_lb x) 64))) : wpX_count post x := ⟨65, qx_count_l h 64 0 (by omega)⟩
/-! the variables of an atom -/
def qd_vn (x : Nat) : Nat := if x < 6 then 0 else if x < 10 then x - 5 else if (x - 10) / 4 ≤ (x - 10) % 4 then (x - 10) % 4 + 1 else (x - 10) / 4 + 1
theorem qd_r1 {x : Nat} (h : 10 ≤ x) (hx : x < 26) : (nI x - 10) / 4 = nI ((x - 10) / 4) := by
  rw [show (10 : Int32) = nI 10 from rfl, show (4 : Int32) = nI 4 from rfl, pk_sub h, pk_div (by omega) (by omega) (by omega)]
theorem qd_r2 {x : Nat} (h : 10 ≤ x) (hx : x < 26) : (nI x - 10) - (nI x - 10) / 4 * 4 = nI ((x - 10) % 4) := by
  rw [show (10 : Int32) = nI 10 from rfl, show (4 : Int32) = nI 4 from rfl, pk_sub h, pk_rem (by omega) (by omega) (by omega)]
theorem qd_r0 {x : Nat} (h : 6 ≤ x) : nI x - 6 = nI (x - 6) := by
  rw [show (6 : Int32) = nI 6 from rfl, pk_sub h]
theorem qx_vn {post : Int32 → Prop} {x : Nat} (hx : x < 26) (h : post (nI (qd_vn x))) : wpX_variablesNeeded post (nI x) := by
  refine pk_le 6 x (fun z => pk_le 10 x (fun w => ?_) (fun w => ?_)) (fun z => ?_)
  · refine ⟨by decide, ⟨by decide, ?_⟩⟩
    rw [qd_r2 w hx, qd_r1 w hx]
    unfold qd_vn at h
    rw [if_neg (by omega), if_neg (by omega)] at h
    refine pk_le ((x - 10) / 4) ((x - 10) % 4) (fun y => ?_) (fun y => ?_)
    · rw [if_pos y] at h; rw [nI_1]; exact h
    · rw [if_neg (by omega)] at h; rw [nI_1]; exact h
  · unfold qd_vn at h
    rw [if_neg (by omega), if_pos w] at h
    rw [qd_r0 z, nI_1, show x - 6 + 1 = x - 5 by omega]
    exact h
  · unfold qd_vn at h
    rw [if_pos z] at h
    exact h
