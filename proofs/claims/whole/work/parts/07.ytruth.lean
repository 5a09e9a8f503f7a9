/-! the reference's truth -/
theorem qy_a86 {post : Int32 → Prop} {J : Int32 → Int32 → Prop} {x1 y S W K : Int32} {t a o pa q : Nat → Int32} {i c b : Nat} (hb : b < 6) (h : J (y ||| (qd_bI (decide (i / 2 ^ b % 2 = 1)) <<< (nI c &&& 31))) (nI (c + 1))) : wY_atom_86 post J x1 (nI i) y (nI c) (nI b) S W K t a o pa q := by
  unfold wY_atom_86
  rw [qd_b1 _ (by omega), qd_bt_nI (by omega)]
  exact nm_e (nm_r (nI_1 c) h)
/-- one bit more of a mask -/
theorem qd_mk {y : Int32} {c : Nat} {f : Nat → Bool} (hc : c < 16) (h1 : ∀ j, j < c → bt y j = f j) (h2 : ∀ j, c ≤ j → j < 32 → bt y j = false) : (∀ j, j < c + 1 → bt (y ||| (qd_bI (f c) <<< (nI c &&& 31))) j = f j) ∧ (∀ j, c + 1 ≤ j → j < 32 → bt (y ||| (qd_bI (f c) <<< (nI c &&& 31))) j = false) := by
  refine ⟨fun j hj => ?_, fun j hj hj2 => ?_⟩
  · rw [b_or, qd_bt_sh (by omega) (by omega)]
    by_cases e : j = c
    · subst e; rw [h2 j (Nat.le_refl _) (by omega), decide_eq_true rfl]; rfl
    · rw [decide_eq_false e, Bool.false_and, Bool.or_false]; exact h1 j (by omega)
  · rw [b_or, qd_bt_sh (by omega) (by omega), h2 j (by omega) hj2, decide_eq_false (by omega)]; rfl
theorem qy_atom_l {post : Int32 → Prop} {S W K : Int32} {t a o pa q : Nat → Int32} {x i : Nat} (h6 : 6 ≤ x) (hx : x < 26) (h : ∀ r, (∀ c, c < 16 → bt r c = qd_at x c i) → post r) : ∀ p c, c + p = 16 → ∀ y, (∀ j, j < c → bt y j = qd_at x j i) → (∀ j, c ≤ j → j < 32 → bt y j = false) → wY_atom_5 post (nI x) (nI i) S W K t a o pa q (p + 1) y (nI c) := by
  intro p
  induction p with
  | zero =>
    intro c hc y h1 _
    have e : c = 16 := by omega
    subst e
    exact br_t qd_16' (h y h1)
  | succ p ih =>
    intro c hc y h1 h2
    have hb := qd_t_ab x hx c (by omega)
    have k := qd_mk (f := fun c => qd_at x c i) (show c < 16 by omega) h1 h2
    have fin : wY_atom_86 post (wY_atom_5 post (nI x) (nI i) S W K t a o pa q (p + 1)) (nI x) (nI i) y (nI c) (nI (qd_ab x c)) S W K t a o pa q :=
      qy_a86 hb (ih (c + 1) (by omega) _ k.1 k.2)
    refine br_f (qd_16 (by omega)) (pk_le 10 x (fun w => ?_) (fun w => ?_))
    · refine ⟨by decide, br_t (nI_le (a := 10) w (by omega)) ⟨by decide, br_t (nI_le (a := 10) w (by omega)) ?_⟩⟩
      rw [qd_r2 w hx, qd_r1 w hx, qd_th (by omega), qd_th (by omega)]
      have e : (2 + 2 * nI (c / 2 ^ ((x - 10) / 4) % 2)) + nI (c / 2 ^ ((x - 10) % 4) % 2) = nI (qd_ab x c) := by
        unfold qd_ab
        rw [if_neg (by omega), show (2 : Int32) = nI 2 from rfl, pk_mul, nI_add, nI_add]
      rw [e]
      exact fin
    · have n10 : ¬ (10 : Int32) ≤ nI x := nI_ge (b := 10) w (by decide)
      refine br_f n10 (br_f n10 ?_)
      rw [qd_r0 h6, qd_th (by omega)]
      unfold qd_ab at fin
      rw [if_pos w] at fin
      exact fin
theorem qy_atom {post : Int32 → Prop} {S W K : Int32} {t a o pa q : Nat → Int32} {x i : Nat} (h6 : 6 ≤ x) (hx : x < 26) (h : ∀ r, (∀ c, c < 16 → bt r c = qd_at x c i) → post r) : wpY_atom post (S, W, K, t, a, o, pa, q) (nI x) (nI i) :=
  ⟨17, qy_atom_l h6 hx h 16 0 (by omega) 0 (fun j hj => absurd hj (by omega)) (fun j _ _ => b_0 j)⟩
theorem qy_bound_l {post : Int32 → Prop} {S W K : Int32} {t a o pa q : Nat → Int32} {x D i : Nat} {f : qd_V} {m z : Int32} (hD : D < 4) (hz : x = 4 → ¬ z = 0) (hz' : x ≠ 4 → z = 0) (hm : ∀ c, c < 16 → bt m c = f c i) (h : ∀ r, (∀ c, c < 16 → bt r c = qd_qu x D f c i) → post r) : ∀ p c, c + p = 16 → ∀ y, (∀ j, j < c → bt y j = qd_qu x D f j i) → (∀ j, c ≤ j → j < 32 → bt y j = false) → wY_bound_6 post m (nI D) z S W K t a o pa q (p + 1) y (nI c) := by
  intro p
  induction p with
  | zero =>
    intro c hc y h1 _
    have e : c = 16 := by omega
    subst e
    exact br_t qd_16' (h y h1)
  | succ p ih =>
    intro c hc y h1 h2
    have k := qd_mk (f := fun c => qd_qu x D f c i) (show c < 16 by omega) h1 h2
    have fin := ih (c + 1) (by omega) _ k.1 k.2
    obtain ⟨e1, l1⟩ := qd_t_cl D hD c (by omega)
    obtain ⟨e2, l2⟩ := qd_t_se D hD c (by omega)
    refine br_f (qd_16 (by omega)) ?_
    rw [e1, e2, qd_b1 _ (by omega), qd_b1 _ (by omega), hm _ l1, hm _ l2]
    refine nm_e (nm_e (br_c (fun w => ?_) (fun w => ?_)))
    · have n4 : x ≠ 4 := fun e => hz e w
      simp only [qd_qu, if_neg n4] at fin
      rw [qd_bI_or]
      exact nm_e (nm_r (nI_1 c) fin)
    · have e4 : x = 4 := Classical.byContradiction (fun e => w (hz' e))
      simp only [qd_qu, if_pos e4] at fin
      rw [qd_bI_and]
      exact nm_e (nm_r (nI_1 c) fin)
theorem qy_bound {post : Int32 → Prop} {S W K : Int32} {t a o pa q : Nat → Int32} {x D i : Nat} {f : qd_V} {m z : Int32} (hD : D < 4) (hz : x = 4 → ¬ z = 0) (hz' : x ≠ 4 → z = 0) (hm : ∀ c, c < 16 → bt m c = f c i) (h : ∀ r, (∀ c, c < 16 → bt r c = qd_qu x D f c i) → post r) : wpY_bound post (S, W, K, t, a, o, pa, q) m (nI D) z :=
  ⟨17, qy_bound_l hD hz hz' hm h 16 0 (by omega) 0 (fun j hj => absurd hj (by omega)) (fun j _ _ => b_0 j)⟩
def qd_Ys (i : Nat) (pa : Nat → Int32) : List qd_V → Prop
  | [] => True
  | f :: r => (∀ c, c < 16 → bt (pa r.length) c = f c i) ∧ qd_Ys i pa r
theorem qd_Ys_u {i : Nat} {pa : Nat → Int32} {k : Nat} {x : Int32} : ∀ {l : List qd_V}, l.length ≤ k → qd_Ys i pa l → qd_Ys i (upd pa k x) l
  | [], _, _ => trivial
  | f :: r, h, H => ⟨by rw [pk_un (by simp at h; omega)]; exact H.1, qd_Ys_u (by simp at h; omega) H.2⟩
theorem qd_Ys_n {i : Nat} {pa : Nat → Int32} {x : Int32} {f : qd_V} {l : List qd_V} (hx : ∀ c, c < 16 → bt x c = f c i) (h : qd_Ys i pa l) : qd_Ys i (upd pa l.length x) (f :: l) :=
  ⟨by rw [pk_us]; exact hx, qd_Ys_u (Nat.le_refl _) h⟩
theorem qd_nb (x : Int32) {c : Nat} (hc : c < 16) : bt ((x ^^^ (-1)) &&& 65535) c = !bt x c := by
  rw [b_and, b_65535, decide_eq_true hc, Bool.and_true, b_xor, b_m1 c (by omega), Bool.xor_true]
theorem qy_truth_l {post : Int32 → SY → Prop} {T : Nat → Nat} {s : Nat} (G : qd_G T s) (h0 : qd_op T s = 0) {W K : Int32} {a o q : Nat → Int32} {i : Nat} (ha : ∀ j, j < s → a j = nI (qd_D T j)) (h : ∀ pa', post (qd_bI (qd_tr T s i)) (nI s, W, K, qd_t T, a, o, pa', q)) : ∀ p, p ≤ s → ∀ pa, qd_Ys i pa (qd_lr T s p) → wY_truth_9 post (nI i) (nI s) W K (p + 1) (nI (qd_op T p)) (nI p - 1) (qd_t T) a o pa q := by
  obtain ⟨hs, h26, H, hq4⟩ := G
  intro p
  induction p with
  | zero =>
    intro _ pa hc
    refine br_t (by decide) ?_
    obtain ⟨f, ef, tf⟩ := qd_lr_0 H h0
    rw [ef] at hc
    have b := hc.1 0 (by omega)
    rw [← tf i] at b
    have r := h pa
    have b' : bt (pa 0) 0 = qd_tr T s i := b
    rw [qd_bit1, b']
    refine br_c (fun z => ?_) (fun z => ?_)
    · rw [z] at r; exact r
    · rw [ts_nt z] at r; exact r
  | succ p ih =>
    intro hp pa hc
    rw [nI_pred]
    refine br_f (nI_pos (by omega)) ⟨vp_in_nI (by omega) (by omega), ?_⟩
    rw [nI_clamp (by omega)]
    have len := qd_lr_l H h0 (show p + 1 ≤ s by omega)
    have ops := qd_op_s (H p (by omega))
    have opp := H p (by omega)
    have opl := qd_op_le (T := T) (k := p) (fun j hj => H j (by omega))
    have arl := qd_ar_le (T p)
    have lrp := qd_lr_p (T := T) (show p < s by omega)
    have nx : nI p + (-1) = nI p - 1 := (Int32.sub_eq_add_neg _ _).symm
    have x26 := h26 p
    have hap := ha p (by omega)
    rw [← len]
    refine nm_r (e' := nI (T p)) rfl ?_
    by_cases z0 : qd_ar (T p) = 0
    · have z6 := qd_ar0 z0
      rw [qd_sp0 z0] at lrp
      refine br_f (nI_nlt (b := 6) z6 (by omega)) (qy_atom z6 x26 (fun r hr => ?_))
      rw [qd_t_a15 _ (by omega), nI_clamp (by omega)]
      refine ⟨vp_in_nI (by omega) (by omega), nm_e (nm_r (nI_1 _) (nm_r nx ?_))⟩
      rw [show (qd_lr T s (p + 1)).length + 1 = qd_op T p by omega]
      refine ih (by omega) _ ?_
      rw [lrp]
      exact qd_Ys_n hr hc
    · have l6 : T p < 6 := by
        rcases Nat.lt_or_ge (T p) 6 with w | w
        · exact w
        · exact absurd (show qd_ar (T p) = 0 by unfold qd_ar; rw [if_neg (by omega)]) z0
      refine br_t (nI_lt (b := 6) l6 (by decide)) ?_
      by_cases z1 : qd_ar (T p) = 1
      · match hl : qd_lr T s (p + 1) with
        | [] => rw [hl] at len; simp at len; omega
        | f :: r =>
          rw [hl] at hc len
          rw [hl, qd_sp1 z1] at lrp
          rw [List.length_cons] at len ⊢
          have e1 : r.length + 1 = qd_op T p := by omega
          have n1 : ¬ nI (r.length + 1) < 1 := nI_nlt (b := 1) (by omega) (by omega)
          refine pk_eq (T p) 0 (fun w => br_f n1 ?_) (fun w => ?_)
          · rw [nI_pred, nI_clamp (by omega)]
            refine ⟨vp_in_nI (by omega) (by omega), vp_in_nI (by omega) (by omega), nm_e (nm_r nx ?_)⟩
            rw [e1]
            refine ih (by omega) _ ?_
            rw [lrp, if_pos w]
            exact qd_Ys_n (fun c hc' => by rw [qd_nb _ hc', hc.1 c hc']; rfl) hc.2
          · have q1 := qd_ar1 z1 w
            have dl := qd_D_le hq4 (show p < s by omega) opp q1
            have x45 : T p = 4 ∨ T p = 5 := by
              unfold qd_q at q1
              by_cases v : T p = 4 ∨ T p = 5
              · exact v
              · rw [if_neg v] at q1; omega
            rw [if_neg w] at lrp
            refine br_f (nI_nlt (b := 4) (by omega) (by omega)) (br_f n1 ?_)
            rw [nI_pred, nI_clamp (by omega), nI_clamp (by omega), hap, qd_t_a3 _ (by omega)]
            refine ⟨vp_in_nI (by omega) (by omega), vp_in_nI (by omega) (by omega), pk_eq (T p) 4 (fun v => ?_) (fun v => ?_)⟩
            · refine qy_bound (x := T p) (f := f) (i := i) (by omega) (fun _ => by decide) (fun v' => absurd v v') hc.1 (fun y hy => ?_)
              rw [nI_clamp (by omega)]
              refine ⟨vp_in_nI (by omega) (by omega), nm_e (nm_r nx ?_)⟩
              rw [e1]
              refine ih (by omega) _ ?_
              rw [lrp]
              exact qd_Ys_n hy hc.2
            · refine qy_bound (x := T p) (f := f) (i := i) (by omega) (fun v' => absurd v' v) (fun _ => rfl) hc.1 (fun y hy => ?_)
              rw [nI_clamp (by omega)]
              refine ⟨vp_in_nI (by omega) (by omega), nm_e (nm_r nx ?_)⟩
              rw [e1]
              refine ih (by omega) _ ?_
              rw [lrp]
              exact qd_Ys_n hy hc.2
      · have z2 : qd_ar (T p) = 2 := by omega
        match hl : qd_lr T s (p + 1) with
        | [] => rw [hl] at len; simp at len; omega
        | [f] => rw [hl] at len; simp at len; omega
        | f :: g :: r =>
          rw [hl] at hc len
          rw [hl, qd_sp2 z2] at lrp
          rw [List.length_cons, List.length_cons] at len ⊢
          have e1 : r.length + 1 = qd_op T p := by omega
          have x123 : T p = 1 ∨ T p = 2 ∨ T p = 3 := by
            unfold qd_ar at z2
            rw [if_pos l6] at z2
            by_cases v : T p = 1 ∨ T p = 2 ∨ T p = 3
            · exact v
            · rw [if_neg v] at z2; omega
          obtain ⟨hf, hg, hr⟩ := hc
          rw [List.length_cons, e1] at hf
          refine br_f (fun w => absurd ((nI_eq (b := 0) (by omega) (by decide)).mp w) (by omega)) (br_t (nI_lt (b := 4) (by omega) (by decide)) (br_f (nI_nlt (b := 2) (by omega) (by omega)) ?_))
          rw [nI_pred, show nI (r.length + 1 + 1) - 2 = nI r.length from pk_sub (b := 2) (by omega), nI_clamp (by omega), nI_clamp (by omega)]
          refine ⟨vp_in_nI (by omega) (by omega), nm_e ⟨vp_in_nI (by omega) (by omega), nm_e (nm_r (pk_m1 _) ?_)⟩⟩
          rw [nI_pred, nI_clamp (by omega)]
          refine pk_eq (T p) 1 (fun v => ?_) (fun v => pk_eq (T p) 2 (fun u => ?_) (fun u => ?_))
          · refine ⟨vp_in_nI (by omega) (by omega), nm_e (nm_r nx ?_)⟩
            rw [e1]
            refine ih (by omega) _ ?_
            rw [lrp]
            refine qd_Ys_n (fun c hc' => ?_) hr
            rw [b_and, hf c hc', hg c hc']
            unfold qd_tw
            rw [if_pos v]
          · refine ⟨vp_in_nI (by omega) (by omega), nm_e (nm_r nx ?_)⟩
            rw [e1]
            refine ih (by omega) _ ?_
            rw [lrp]
            refine qd_Ys_n (fun c hc' => ?_) hr
            rw [b_or, hf c hc', hg c hc']
            unfold qd_tw
            rw [if_neg v, if_pos u]
          · refine ⟨vp_in_nI (by omega) (by omega), nm_e (nm_r nx ?_)⟩
            rw [e1]
            refine ih (by omega) _ ?_
            rw [lrp]
            refine qd_Ys_n (fun c hc' => ?_) hr
            rw [b_and, b_65535, decide_eq_true hc', Bool.and_true, b_or, b_xor, b_m1 c (by omega), Bool.xor_true, hf c hc', hg c hc']
            unfold qd_tw
            rw [if_neg v, if_neg u]
theorem qy_truth {post : Int32 → SY → Prop} {T : Nat → Nat} {s : Nat} (G : qd_G T s) (h0 : qd_op T s = 0) {W K : Int32} {a o pa q : Nat → Int32} {i : Nat} (ha : ∀ j, j < s → a j = nI (qd_D T j)) (h : ∀ pa', post (qd_bI (qd_tr T s i)) (nI s, W, K, qd_t T, a, o, pa', q)) : wpY_truth post (nI s, W, K, qd_t T, a, o, pa, q) (nI i) := by
  refine nm_e ⟨s + 1, ?_⟩
  have r := qy_truth_l (post := post) (i := i) G h0 ha h s (Nat.le_refl _) pa (by rw [qd_lr_s]; trivial)
  rw [h0] at r
  exact r
