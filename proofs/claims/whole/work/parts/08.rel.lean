/-! the relation, and the methods that only touch the tokens -/
def i_Rel (k : Nat) (u : SX) (v : SY) : Prop := ∃ (T : Nat → Nat) (s : Nat) (K : Int32) (L : Int64) (d o e : Nat → Int32) (m : Nat → Int64) (W : Int32) (a o2 pa q : Nat → Int32), u = (nI s, K, L, qd_t T, d, o, e, m) ∧ v = (nI s, W, K, qd_t T, a, o2, pa, q) ∧ qd_G T s ∧ (K = 0 ∨ K = 1) ∧ ∀ i, i < 64 → q i = qd_bI (qd_lb L i)
theorem qd_rel {k : Nat} {T : Nat → Nat} {s : Nat} {K : Int32} {L : Int64} {d o e : Nat → Int32} {m : Nat → Int64} {W : Int32} {a o2 pa q : Nat → Int32} (G : qd_G T s) (hK : K = 0 ∨ K = 1) (hq : ∀ i, i < 64 → q i = qd_bI (qd_lb L i)) : i_Rel k (nI s, K, L, qd_t T, d, o, e, m) (nI s, W, K, qd_t T, a, o2, pa, q) :=
  ⟨T, s, K, L, d, o, e, m, W, a, o2, pa, q, rfl, rfl, G, hK, hq⟩
theorem i_up {k : Nat} {u : SX} {v : SY} (h : i_Rel k u v) : i_Rel (k + 2) u v := h
theorem qd_G0 {T : Nat → Nat} (h : ∀ k, T k < 26) : qd_G T 0 := ⟨by omega, h, fun k hk => absurd hk (by omega), Nat.zero_le _⟩
theorem qd_G_m {T : Nat → Nat} {s n : Nat} (G : qd_G T s) (h : n ≤ s) : qd_G T n :=
  ⟨by have := G.1; omega, G.2.1, fun k hk => G.2.2.1 k (by omega), Nat.le_trans (qd_qc_mono h) G.2.2.2⟩
theorem i_vc0 : wpX_init (fun u => wpY_init (fun v => i_Rel 0 u v)) :=
  qd_rel (k := 0) (T := fun _ => 0) (s := 0) (qd_G0 (fun _ => by decide)) (Or.inl rfl) (fun i _ => by rw [qd_lb_0]; rfl)
def qd_T (T : Nat → Nat) (s j : Nat) : Nat → Nat := fun k => if k = s then j else T k
theorem qd_T_t (T : Nat → Nat) (s j : Nat) : upd (qd_t T) s (nI j) = qd_t (qd_T T s j) := by
  funext k
  unfold upd qd_t qd_T
  split <;> rfl
theorem qd_T_lo {T : Nat → Nat} {s j k : Nat} (h : k < s) : T k = qd_T T s j k := by
  unfold qd_T
  rw [if_neg (by omega)]
theorem qd_G_s {T : Nat → Nat} {s j : Nat} (G : qd_G T s) (hs : s < 13) (hj : j < 26) (ho : 0 < qd_op T s) (hq : qd_qc T s + qd_q j ≤ 4) : qd_G (qd_T T s j) (s + 1) := by
  refine ⟨by omega, fun k => ?_, fun k hk => ?_, ?_⟩
  · unfold qd_T
    split
    · exact hj
    · exact G.2.1 k
  · rw [← qd_op_ext (T := T) (T' := qd_T T s j) (fun i hi => qd_T_lo (by omega))]
    by_cases e : k = s
    · subst e; exact ho
    · exact G.2.2.1 k (by omega)
  · unfold qd_qc
    rw [← qd_qc_ext (T := T) (T' := qd_T T s j) (fun i hi => qd_T_lo (by omega)), show qd_T T s j s = j from if_pos rfl]
    exact hq
theorem i_vc_back {k : Nat} {u : SX} {v : SY} (I : i_Rel k u v) (hk : k + 2 ≤ 1024) : wpX_back (fun r u' => wpY_back (fun r' v' => r' = r ∧ i_Rel (k + 2) u' v') v) u := by
  obtain ⟨T, s, K, L, d, o, e, m, W, a, o2, pa, q, rfl, rfl, G, hK, hq⟩ := I
  have hs := G.1
  cases s with
  | zero => exact br_t rfl (br_t rfl ⟨rfl, qd_rel G hK hq⟩)
  | succ n =>
    have ne : ¬ nI (n + 1) = 0 := nI_ne0 (by omega) (by omega)
    refine br_f ne (nm_r (nI_pred n) ⟨vp_in_nI (by omega) (by omega), br_f ne (nm_r (nI_pred n) ⟨vp_in_nI (by omega) (by omega), rfl, qd_rel (qd_G_m G (by omega)) hK hq⟩)⟩)
theorem i_vc_clear {k : Nat} {u : SX} {v : SY} (I : i_Rel k u v) (hk : k + 2 ≤ 1024) : wpX_clear (fun u' => wpY_clear (fun v' => i_Rel (k + 2) u' v') v) u := by
  obtain ⟨T, s, K, L, d, o, e, m, W, a, o2, pa, q, rfl, rfl, G, hK, hq⟩ := I
  exact qd_rel (k := k + 2) (s := 0) (qd_G0 G.2.1) hK hq
theorem i_vc_length {k : Nat} {u : SX} {v : SY} (I : i_Rel k u v) (hk : k + 2 ≤ 1024) : wpX_length (fun r => wpY_length (fun r' => r' = r ∧ i_Rel (k + 2) u v) v) u := by
  obtain ⟨T, s, K, L, d, o, e, m, W, a, o2, pa, q, rfl, rfl, G, hK, hq⟩ := I
  exact ⟨rfl, qd_rel G hK hq⟩
theorem i_vc_token {k : Nat} {u : SX} {v : SY} (I : i_Rel k u v) (hk : k + 2 ≤ 1024) (v1 : Int32) : wpX_token (fun r => wpY_token (fun r' => r' = r ∧ i_Rel (k + 2) u v) v v1) u v1 := by
  obtain ⟨T, s, K, L, d, o, e, m, W, a, o2, pa, q, rfl, rfl, G, hK, hq⟩ := I
  have hs := G.1
  have R : i_Rel (k + 2) (nI s, K, L, qd_t T, d, o, e, m) (nI s, W, K, qd_t T, a, o2, pa, q) := qd_rel G hK hq
  by_cases h0 : v1 < 0
  · exact br_t h0 (br_t h0 ⟨rfl, R⟩)
  · obtain ⟨j, hj, rfl⟩ := nI_of h0
    refine br_f h0 (pk_lt j s (fun h => ?_) (fun h => ?_))
    · have hi : vp_in (nI j) 13 := vp_in_nI (by omega) (by omega)
      exact ⟨hi, br_f h0 (br_t (nI_lt h (by omega)) ⟨hi, rfl, R⟩)⟩
    · exact br_f h0 (br_f (nI_nlt h hj) ⟨rfl, R⟩)
theorem i_vc_complete {k : Nat} {u : SX} {v : SY} (I : i_Rel k u v) (hk : k + 2 ≤ 1024) : wpX_complete (fun r => wpY_complete (fun r' v' => r' = r ∧ i_Rel (k + 2) u v') v) u := by
  obtain ⟨T, s, K, L, d, o, e, m, W, a, o2, pa, q, rfl, rfl, G, hK, hq⟩ := I
  exact qx_complete G (qy_complete G (fun a' o' _ => ⟨rfl, qd_rel G hK hq⟩))
/-! feed -/
theorem qx_f37 {post : Int32 → SX → Prop} {T : Nat → Nat} {s j : Nat} (G : qd_G T s) (hs : s < 13) (ho : 0 < qd_op T s) (hj : j < 26) {K : Int32} {L : Int64} {d o e : Nat → Int32} {m : Nat → Int64} (h1 : qd_vn j ≤ qd_D T s → ∀ d' o', post (nI (s + 1)) (nI (s + 1), K, L, qd_t (qd_T T s j), d', o', e, m)) (h2 : qd_D T s < qd_vn j → ∀ d' o', post (-1) (nI s, K, L, qd_t T, d', o', e, m)) : wX_feed_37 post (nI j) (nI s) K L (qd_t T) d o e m := by
  refine br_f (nI_pos (by omega)) (br_t (nI_le (b := 25) (by omega) (by decide)) ?_)
  refine qx_depths G (fun d' o' _ hd => qx_vn hj ⟨vp_in_nI (by omega) (by omega), ?_⟩)
  have vl : qd_vn j ≤ 20 := by
    unfold qd_vn
    split
    · omega
    · split
      · omega
      · split <;> omega
  have dl := qd_D_14 ho
  rw [nI_clamp (by omega), hd ho]
  refine pk_le (qd_vn j) (qd_D T s) (fun w => ⟨vp_in_nI (by omega) (by omega), ?_⟩) (fun w => h2 w d' o')
  rw [qd_T_t]
  exact nm_e (nm_r (nI_1 s) (h1 w d' o'))
theorem qy_f125 {post : Int32 → SY → Prop} {T : Nat → Nat} {s j : Nat} (hs : s < 13) {W K : Int32} {a o pa q : Nat → Int32} (h : post (nI (s + 1)) (nI (s + 1), W, K, qd_t (qd_T T s j), a, o, pa, q)) : wY_feed_125 post (nI j) (nI s) W K (qd_t T) a o pa q := by
  refine ⟨vp_in_nI (by omega) (by omega), ?_⟩
  rw [nI_clamp (by omega), qd_T_t]
  exact nm_e (nm_r (nI_1 s) h)
theorem qy_f41 {post : Int32 → SY → Prop} {T : Nat → Nat} {s j : Nat} (hs : s < 13) (ho : 0 < qd_op T s) (hj : j < 26) {W K : Int32} {a o pa q : Nat → Int32} (ha : a s = nI (qd_D T s)) (h1 : qd_vn j ≤ qd_D T s → post (nI (s + 1)) (nI (s + 1), W, K, qd_t (qd_T T s j), a, o, pa, q)) (h2 : qd_D T s < qd_vn j → post (-1) (nI s, W, K, qd_t T, a, o, pa, q)) : wY_feed_41 post (nI j) (nI s) W K (qd_t T) a o pa q := by
  have dl := qd_D_14 ho
  have n0 : ¬ nI j < 0 := nI_pos (by omega)
  have n25 : ¬ (25 : Int32) < nI j := nI_nlt (a := 25) (by omega) (by decide)
  have ix : vp_in (nI s) 14 := vp_in_nI (by omega) (by omega)
  have low : j < 6 → ∀ x2 z0, wY_feed_80 post (nI j) x2 z0 (nI s) W K (qd_t T) a o pa q := fun h6 x2 z0 =>
    br_f n0 (br_f n25 (br_t (nI_lt (b := 6) h6 (by decide)) (qy_f125 hs (h1 (by unfold qd_vn; rw [if_pos h6]; omega)))))
  have high : 6 ≤ j → ∀ v w, v < 2 ^ 31 → w < 2 ^ 31 → (qd_vn j ≤ qd_D T s ↔ v < qd_D T s ∧ w < qd_D T s) → wY_feed_80 post (nI j) (nI v) (nI w) (nI s) W K (qd_t T) a o pa q := by
    intro h6 v w hv hw hi
    refine br_f n0 (br_f n25 (br_f (nI_nlt (b := 6) h6 (by omega)) ⟨ix, ?_⟩))
    rw [nI_clamp (by omega), ha]
    refine pk_le (qd_D T s) v (fun z => h2 (by omega)) (fun z => ⟨ix, pk_lt w (qd_D T s) (fun y => qy_f125 hs (h1 (hi.mpr ⟨z, y⟩))) (fun y => h2 (by omega))⟩)
  rcases Nat.lt_or_ge j 10 with h10 | h10
  · have n10 : ¬ (10 : Int32) ≤ nI j := nI_ge (b := 10) h10 (by decide)
    refine br_f n10 (br_f n10 ?_)
    rcases Nat.lt_or_ge j 6 with h6 | h6
    · exact low h6 _ _
    · rw [qd_r0 h6]
      refine high h6 _ _ (by omega) (by omega) ?_
      unfold qd_vn
      rw [if_neg (by omega), if_pos h10]
      omega
  · have y10 : (10 : Int32) ≤ nI j := nI_le (a := 10) h10 (by omega)
    refine br_t y10 ⟨by decide, br_t y10 ⟨by decide, ?_⟩⟩
    rw [qd_r2 h10 hj, qd_r1 h10 hj]
    refine high (by omega) _ _ (by omega) (by omega) ?_
    unfold qd_vn
    rw [if_neg (by omega), if_neg (by omega)]
    split <;> omega
theorem qy_fbad {post : Int32 → SY → Prop} {x S W K : Int32} {t a o pa q : Nat → Int32} (hx : x < 0 ∨ (25 : Int32) < x) (h : post (-1) (S, W, K, t, a, o, pa, q)) : wY_feed_41 post x S W K t a o pa q := by
  have F : ∀ x2 z0, wY_feed_80 post x x2 z0 S W K t a o pa q := fun x2 z0 => br_c (fun _ => h) (fun z => br_t (hx.resolve_left z) h)
  have E : ∀ z0, wY_feed_60 post x z0 S W K t a o pa q := fun z0 => br_c (fun _ => ⟨by decide, F _ _⟩) (fun _ => F _ _)
  exact br_c (fun _ => ⟨by decide, E _⟩) (fun _ => E _)
theorem qd_45 {x : Int32} (hx : x < 0 ∨ (25 : Int32) < x) : ¬ x = 4 ∧ ¬ x = 5 :=
  ⟨fun e => by subst e; exact absurd hx (by decide), fun e => by subst e; exact absurd hx (by decide)⟩
theorem i_vc_feed {k : Nat} {u : SX} {v : SY} (I : i_Rel k u v) (hk : k + 2 ≤ 1024) (v1 : Int32) : wpX_feed (fun r u' => wpY_feed (fun r' v' => r' = r ∧ i_Rel (k + 2) u' v') v v1) u v1 := by
  obtain ⟨T, s, K, L, d, o, e, m, W, a, o2, pa, q, rfl, rfl, G, hK, hq⟩ := I
  have hs := G.1
  rcases Nat.lt_or_ge s 13 with h13 | h13
  · have n13 : ¬ (13 : Int32) ≤ nI s := nI_ge (b := 13) h13 (by decide)
    refine br_f n13 (qx_complete G ?_)
    by_cases h0 : qd_op T s = 0
    · rw [h0]
      refine br_f (by decide) ?_
      unfold wpY_feed
      refine qy_read G (fun a' o' _ _ => br_f n13 ?_)
      rw [h0]
      exact br_f (by decide) ⟨rfl, qd_rel G hK hq⟩
    · have c0 : qd_c0 (qd_op T s) = 0 := if_neg h0
      have op : 0 < qd_op T s := by omega
      rw [c0]
      refine br_t rfl ?_
      by_cases bad : v1 < 0 ∨ (25 : Int32) < v1
      · obtain ⟨n4, n5⟩ := qd_45 bad
        have fin : wpY_feed (fun r' v' => r' = -1 ∧ i_Rel (k + 2) (nI s, K, L, qd_t T, d, o, e, m) v') (nI s, W, K, qd_t T, a, o2, pa, q) v1 := by
          unfold wpY_feed
          refine qy_read G (fun a' o' _ _ => br_f n13 ?_)
          rw [c0]
          exact br_t rfl (br_f n4 (br_f n5 (qy_fbad bad ⟨rfl, qd_rel G hK hq⟩)))
        refine br_f n4 (br_f n5 (br_t rfl ?_))
        exact br_c (fun _ => fin) (fun z => br_f (Int32.not_le.mpr (bad.resolve_left z)) fin)
      · obtain ⟨j, hj, rfl⟩ := nI_of (x := v1) (fun z => bad (Or.inl z))
        have j26 : j < 26 := by
          rcases Nat.lt_or_ge j 26 with z | z
          · exact z
          · exact absurd (Or.inr (nI_lt (a := 25) z hj)) bad
        by_cases hf : qd_q j = 1 ∧ 4 ≤ qd_qc T s
        · have qf : qd_qc T s ≤ 13 := by have := qd_qc_le (T := T) s; omega
          have j45 : j = 4 ∨ j = 5 := by
            have h := hf.1
            unfold qd_q at h
            by_cases z : j = 4 ∨ j = 5
            · exact z
            · rw [if_neg z] at h; omega
          have n4 : ¬ nI (qd_qc T s) < 4 := nI_nlt (b := 4) hf.2 (by omega)
          have fin : ∀ u', (∀ v', (∃ a' o', v' = (nI s, qd_c0 (qd_op T s), K, qd_t T, a', o', pa, q)) → i_Rel (k + 2) u' v') → wpY_feed (fun r' v' => r' = -2 ∧ i_Rel (k + 2) u' v') (nI s, W, K, qd_t T, a, o2, pa, q) (nI j) := by
            intro u' hu
            unfold wpY_feed
            refine qy_read G (fun a' o' _ _ => br_f n13 (br_t c0 ?_))
            have z30 : wY_feed_30 (fun r' v' => r' = -2 ∧ i_Rel (k + 2) u' v') (nI j) (nI s) (qd_c0 (qd_op T s)) K (qd_t T) a' o' pa q :=
              qy_quant G (br_f n4 ⟨rfl, hu _ ⟨a', o', rfl⟩⟩)
            rcases j45 with z | z
            · subst z; exact br_t rfl z30
            · subst z; exact br_f (by decide) (br_t rfl z30)
          refine qx_isq j26 ?_
          rw [hf.1]
          refine br_f (by decide) (qx_quant G (br_f n4 (fin _ ?_)))
          rintro v' ⟨a', o', rfl⟩
          exact qd_rel G hK hq
        · have q1 := qd_q_le j
          have q4 := G.2.2.2
          have qs : qd_qc T s + qd_q j ≤ 4 := by omega
          have G' := qd_G_s G h13 j26 op qs
          have Y41 : ∀ (post : Int32 → SY → Prop), (∀ a' o', a' s = nI (qd_D T s) → wY_feed_41 post (nI j) (nI s) 0 K (qd_t T) a' o' pa q) → wpY_feed post (nI s, W, K, qd_t T, a, o2, pa, q) (nI j) := by
            intro post hp
            unfold wpY_feed
            refine qy_read G (fun a' o' _ ha => br_f n13 ?_)
            rw [c0]
            have r := hp a' o' (ha op)
            have z30 : qd_q j = 1 → wY_feed_30 post (nI j) (nI s) 0 K (qd_t T) a' o' pa q :=
              fun z => qy_quant G (br_t (nI_lt (b := 4) (by omega) (by decide)) r)
            refine br_t rfl (pk_eq j 4 (fun z => z30 (by subst z; rfl)) (fun z => pk_eq j 5 (fun y => z30 (by subst y; rfl)) (fun _ => r)))
          have X37 : wX_feed_37 (fun r u' => wpY_feed (fun r' v' => r' = r ∧ i_Rel (k + 2) u' v') (nI s, W, K, qd_t T, a, o2, pa, q) (nI j)) (nI j) (nI s) K L (qd_t T) d o e m := by
            refine qx_f37 G h13 op j26 (fun w d' o' => Y41 _ (fun a' o' ha => ?_)) (fun w d' o' => Y41 _ (fun a' o' ha => ?_))
            · exact qy_f41 h13 op j26 ha (fun _ => ⟨rfl, qd_rel G' hK hq⟩) (fun w' => absurd w' (by omega))
            · exact qy_f41 h13 op j26 ha (fun w' => absurd w' (by omega)) (fun _ => ⟨rfl, qd_rel G hK hq⟩)
          refine qx_isq j26 (pk_eq (qd_q j) 0 (fun z => X37) (fun z => qx_quant G (br_t (nI_lt (b := 4) (by omega) (by decide)) X37)))
  · have y13 : (13 : Int32) ≤ nI s := nI_le (a := 13) h13 (by omega)
    refine br_t y13 ?_
    unfold wpY_feed
    exact qy_read G (fun a' o' _ _ => br_t y13 ⟨rfl, qd_rel G hK hq⟩)
