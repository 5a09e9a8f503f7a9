/-! the reference's read, quantifiers -/
theorem qy_b1 : narrow .boolean (.int (1 : Int32)) = .int 1 ∧ fits .boolean (.int (1 : Int32)) = true := ⟨rfl, rfl⟩
theorem qy_b0 : narrow .boolean (.int (0 : Int32)) = .int 0 ∧ fits .boolean (.int (0 : Int32)) = true := ⟨rfl, rfl⟩
theorem qy_push {post : SY → Prop} {J : Int32 → Int32 → (Nat → Int32) → (Nat → Int32) → (Nat → Int32) → (Nat → Int32) → (Nat → Int32) → Prop} {x2 S W K : Int32} {t a pa q : Nat → Int32} {d x M : Nat} (hx : x < 26) (hM : M ≤ 2) : ∀ (p : Nat) (l : List Nat) (o : Nat → Int32) (c : Nat), c + p = M → l.length + p ≤ 14 → qd_St o l → (∀ o', qd_St o' (List.replicate p (d + qd_q x) ++ l) → J (nI (l.length + p)) (x2 + 1) t a o' pa q) → wY_read_85 post J x2 (nI d) (nI x) (nI M) S W K (p + 1) (nI l.length) (nI c) t a o pa q := by
  intro p
  induction p with
  | zero =>
    intro l o c hc hl ho h
    exact br_t (nI_le (by omega) (by omega)) (nm_e (h o ho))
  | succ p ih =>
    intro l o c hc hl ho h
    have fin : wY_read_85 post J x2 (nI d) (nI x) (nI M) S W K (p + 1) (nI (l.length + 1)) (nI (c + 1)) t a (upd o l.length (nI (d + qd_q x))) pa q := by
      refine ih ((d + qd_q x) :: l) _ (c + 1) (by omega) (by rw [List.length_cons]; omega) (qd_St_p ho) (fun o' ho' => ?_)
      rw [qd_rep] at ho'
      have b := h o' ho'
      rw [List.length_cons, show l.length + 1 + p = l.length + (p + 1) by omega]
      exact b
    refine br_f (nI_ge (by omega) (by omega)) (br_f (nI_ge (b := 16) (by omega) (by omega)) (pk_eq x 4 (fun z => ?_) (fun z => pk_eq x 5 (fun y => ?_) (fun y => ?_))))
    · refine ⟨vp_in_nI (by omega) (by omega), ?_⟩
      rw [nI_clamp (by omega), nI_1]
      rw [show qd_q x = 1 by subst z; rfl] at fin
      exact nm_e (nm_r (nI_1 _) (nm_r (nI_1 _) fin))
    · refine ⟨vp_in_nI (by omega) (by omega), ?_⟩
      rw [nI_clamp (by omega), nI_1]
      rw [show qd_q x = 1 by subst y; rfl] at fin
      exact nm_e (nm_r (nI_1 _) (nm_r (nI_1 _) fin))
    · refine ⟨vp_in_nI (by omega) (by omega), ?_⟩
      rw [nI_clamp (by omega)]
      rw [show qd_q x = 0 by unfold qd_q; rw [if_neg (by omega)]] at fin
      exact nm_e (nm_r (nI_1 _) (nm_r (nI_1 _) fin))
theorem qy_read_l {post : SY → Prop} {T : Nat → Nat} {s : Nat} (G : qd_G T s) {W K : Int32} {pa q : Nat → Int32} (h : ∀ a' o', (∀ j, j < s → a' j = nI (qd_D T j)) → (0 < qd_op T s → a' s = nI (qd_D T s)) → post (nI s, qd_c0 (qd_op T s), K, qd_t T, a', o', pa, q)) : ∀ p k, k + p = s → ∀ a o, qd_St o (qd_os T k) → (∀ j, j < k → a j = nI (qd_D T j)) → wY_read_11 post (nI s) W K (p + 1) (nI (qd_op T k)) (nI k) (qd_t T) a o pa q := by
  obtain ⟨hs, h26, H, _⟩ := G
  intro p
  induction p with
  | zero =>
    intro k hk a o ho ha
    have e : k = s := by omega
    subst e
    have b := qd_op_le H
    refine br_t (nI_le (Nat.le_refl _) (by omega)) (pk_eq (qd_op T k) 0 (fun z => ?_) (fun z => ?_))
    · refine ⟨qy_b1.1, qy_b1.2, br_t (by rw [z]; decide) ⟨vp_in_nI (by omega) (by omega), nm_e ?_⟩⟩
      rw [nI_clamp (by omega)]
      have r := h (upd a k 0) o (fun j hj => by rw [pk_un (by omega)]; exact ha j hj) (fun z' => absurd z' (by omega))
      rw [qd_c0, if_pos z] at r
      exact r
    · obtain ⟨r, er, lr⟩ := qd_os_cons (T := T) (k := k) (by omega)
      rw [er] at ho
      rw [lr] at b ⊢
      refine ⟨qy_b0.1, qy_b0.2, br_f (nI_nle (by omega) (by omega)) ?_⟩
      rw [nI_pred, nI_clamp (by omega), nI_clamp (by omega), ho.1]
      refine ⟨vp_in_nI (by omega) (by omega), vp_in_nI (by omega) (by omega), nm_e ?_⟩
      have f := h (upd a k (nI (qd_D T k))) o (fun j hj => by rw [pk_un (by omega)]; exact ha j hj) (fun _ => pk_us)
      rw [qd_c0, if_neg z] at f
      exact f
  | succ p ih =>
    intro k hk a o ho ha
    have c := H k (by omega)
    have b := qd_op_s c
    have g := qd_op_le (T := T) (k := k) (fun j hj => H j (by omega))
    have g' := qd_op_le (T := T) (k := k + 1) (fun j hj => H j (by omega))
    obtain ⟨r, er, lr⟩ := qd_os_cons c
    rw [er] at ho
    refine br_f (nI_ge (by omega) (by omega)) (br_f (nI_nle (by omega) (by omega)) ?_)
    rw [lr]
    refine nm_r (pk_m1 _) ?_
    rw [nI_clamp (by omega : r.length < 2 ^ 31), nI_clamp (by omega : k < 2 ^ 31), ho.1]
    refine ⟨vp_in_nI (by omega) (by omega), nm_e ⟨vp_in_nI (by omega) (by omega), nm_e ⟨vp_in_nI (by omega) (by omega), nm_e ?_⟩⟩⟩
    have fin : ∃ n, wY_read_85 post (wY_read_11 post (nI s) W K (p + 1)) (nI k) (nI (qd_D T k)) (qd_t T k) (nI (qd_ar (T k))) (nI s) W K n (nI r.length) 0 (qd_t T) (upd a k (nI (qd_D T k))) o pa q := by
      refine ⟨_, qy_push (h26 k) (qd_ar_le _) (qd_ar (T k)) r o 0 (by omega) (by omega) ho.2 (fun o' ho' => ?_)⟩
      rw [← qd_os_s er] at ho'
      rw [nI_1, show r.length + qd_ar (T k) = qd_op T (k + 1) by omega]
      refine ih (k + 1) (by omega) _ o' ho' (fun j hj => ?_)
      by_cases z : j = k
      · subst z; exact pk_us
      · rw [pk_un z]; exact ha j (by omega)
    have x26 := h26 k
    refine pk_eq (T k) 0 (fun z => ?_) (fun z => pk_eq (T k) 4 (fun z4 => ?_) (fun z4 => pk_eq (T k) 5 (fun z5 => ?_) (fun z5 => pk_lt 3 (T k) (fun z3 => ?_) (fun z3 => ?_))))
    · rw [show qd_ar (T k) = 1 by rw [z]; rfl] at fin; exact fin
    · rw [show qd_ar (T k) = 1 by rw [z4]; rfl] at fin; exact fin
    · rw [show qd_ar (T k) = 1 by rw [z5]; rfl] at fin; exact fin
    · rw [show qd_ar (T k) = 0 by unfold qd_ar; rw [if_neg (by omega)]] at fin; exact fin
    · rw [show qd_ar (T k) = 2 by unfold qd_ar; rw [if_pos (by omega), if_pos (by omega)]] at fin; exact fin
theorem qy_read {post : SY → Prop} {T : Nat → Nat} {s : Nat} (G : qd_G T s) {W K : Int32} {a o pa q : Nat → Int32} (h : ∀ a' o', (∀ j, j < s → a' j = nI (qd_D T j)) → (0 < qd_op T s → a' s = nI (qd_D T s)) → post (nI s, qd_c0 (qd_op T s), K, qd_t T, a', o', pa, q)) : wpY_read post (nI s, W, K, qd_t T, a, o, pa, q) :=
  nm_e ⟨s + 1, qy_read_l G h s 0 (by omega) a _ ⟨pk_us, trivial⟩ (fun j hj => absurd hj (by omega))⟩
theorem qy_quant_l {post : Int32 → Prop} {T : Nat → Nat} {s : Nat} (G : qd_G T s) {W K : Int32} {a o pa q : Nat → Int32} (h : post (nI (qd_qc T s))) : ∀ p k, k + p = s → wY_quantifiers_4 post (nI s) W K (qd_t T) a o pa q (p + 1) (nI (qd_qc T k)) (nI k) := by
  obtain ⟨hs, h26, H, _⟩ := G
  intro p
  induction p with
  | zero =>
    intro k hk
    have e : k = s := by omega
    subst e
    exact br_t (nI_le (Nat.le_refl _) (by omega)) h
  | succ p ih =>
    intro k hk
    refine br_f (nI_ge (by omega) (by omega)) ⟨vp_in_nI (by omega) (by omega), ?_⟩
    rw [nI_clamp (by omega)]
    have x26 := h26 k
    have r := ih (k + 1) (by omega)
    unfold qd_qc at r
    refine pk_eq (T k) 4 (fun z => nm_r (nI_1 _) (nm_r (nI_1 k) ?_)) (fun z => ⟨vp_in_nI (by omega) (by omega), pk_eq (T k) 5 (fun y => nm_r (nI_1 _) (nm_r (nI_1 k) ?_)) (fun y => nm_r (Int32.add_zero _) (nm_r (nI_1 k) ?_))⟩)
    · rw [show qd_q (T k) = 1 by rw [z]; rfl] at r; exact r
    · rw [show qd_q (T k) = 1 by rw [y]; rfl] at r; exact r
    · rw [show qd_q (T k) = 0 by unfold qd_q; rw [if_neg (by omega)]] at r; exact r
theorem qy_quant {post : Int32 → Prop} {T : Nat → Nat} {s : Nat} (G : qd_G T s) {W K : Int32} {a o pa q : Nat → Int32} (h : post (nI (qd_qc T s))) : wpY_quantifiers post (nI s, W, K, qd_t T, a, o, pa, q) :=
  ⟨s + 1, qy_quant_l G h s 0 (by omega)⟩
theorem qy_c0 (n : Nat) : narrow .boolean (.int (qd_c0 n)) = .int (qd_c0 n) := by
  unfold qd_c0
  split
  · exact qy_b1.1
  · exact qy_b0.1
theorem qy_bI (b : Bool) : narrow .boolean (.int (qd_bI b)) = .int (qd_bI b) := by
  cases b
  · exact qy_b0.1
  · exact qy_b1.1
theorem qy_nb (b : Bool) : vp_nar .boolean (qd_bI b) = qd_bI b := by cases b <;> rfl
theorem qy_complete {post : Int32 → SY → Prop} {T : Nat → Nat} {s : Nat} (G : qd_G T s) {W K : Int32} {a o pa q : Nat → Int32} (h : ∀ a' o', (∀ j, j < s → a' j = nI (qd_D T j)) → post (qd_c0 (qd_op T s)) (nI s, qd_c0 (qd_op T s), K, qd_t T, a', o', pa, q)) : wpY_complete post (nI s, W, K, qd_t T, a, o, pa, q) := by
  unfold wpY_complete
  exact qy_read G (fun a' o' ha _ => ⟨qy_c0 _, h a' o' ha⟩)
