/-! the component's evaluation -/
def qd_Mi (k c : Nat) (m m' : Nat → Int64) (f : qd_V) : Prop := (∀ j, (j < k * 16 ∨ k * 16 + c ≤ j) → m' j = m j) ∧ ∀ c', c' < c → ∀ i, i < 64 → qd_lb (m' (k * 16 + c')) i = f c' i
theorem qd_Mi_0 {k : Nat} {m : Nat → Int64} {f : qd_V} : qd_Mi k 0 m m f := ⟨fun _ _ => rfl, fun _ h => absurd h (by omega)⟩
theorem qd_Mi_s {k c : Nat} {m m' : Nat → Int64} {f : qd_V} {v : Int64} (h : qd_Mi k c m m' f) (hv : ∀ i, i < 64 → qd_lb v i = f c i) : qd_Mi k (c + 1) m (vp_updL m' (k * 16 + c) v) f := by
  refine ⟨fun j hj => ?_, fun c' hc i hi => ?_⟩
  · rw [pk_uLn (by omega)]; exact h.1 j (by omega)
  · by_cases e : c' = c
    · subst e; rw [pk_uLs]; exact hv i hi
    · rw [pk_uLn (by omega)]; exact h.2 c' (by omega) i hi
theorem qd_ix (k c : Nat) : nI k * 16 + nI c = nI (k * 16 + c) := by
  rw [show (16 : Int32) = nI 16 from rfl, pk_mul, nI_add]
theorem qd_ix1 (k : Nat) : (nI k + 1) * 16 = nI ((k + 1) * 16) := by
  rw [nI_1, show (16 : Int32) = nI 16 from rfl, pk_mul]
theorem qd_16 {c : Nat} (h : c < 16) : ¬ (16 : Int32) ≤ nI c := nI_ge (b := 16) h (by decide)
theorem qd_16' : (16 : Int32) ≤ nI 16 := by decide
theorem qx_a65 {post : SX → Prop} {J : Int32 → (Nat → Int32) → (Nat → Int32) → (Nat → Int32) → (Nat → Int32) → (Nat → Int64) → Prop} {x2 S K : Int32} {L : Int64} {t d o e : Nat → Int32} {m : Nat → Int64} {k c b : Nat} (hk : k < 13) (hc : c < 16) (hb : b < 6) (h : ∀ v, (∀ i, i < 64 → qd_lb v i = decide (i / 2 ^ b % 2 = 1)) → J (nI (c + 1)) t d o e (vp_updL m (k * 16 + c) v)) : wX_findAtom_65 post J (nI k) x2 (nI c) (nI b) S K L t d o e m := by
  refine qx_with hb (fun r hr => ?_)
  rw [qd_ix]
  refine ⟨vp_in_nI (by omega) (by omega), ?_⟩
  rw [nI_clamp (by omega)]
  exact nm_e (nm_r (nI_1 c) (h r hr))
theorem qx_atom_l {post : SX → Prop} {S K : Int32} {L : Int64} {t d o e : Nat → Int32} {m : Nat → Int64} {k x : Nat} (hk : k < 13) (h6 : 6 ≤ x) (hx : x < 26) (h : ∀ m', qd_Mi k 16 m m' (qd_at x) → post (S, K, L, t, d, o, e, m')) : ∀ p c, c + p = 16 → ∀ m', qd_Mi k c m m' (qd_at x) → wX_findAtom_9 post (nI k) (nI x) S K L (p + 1) (nI c) t d o e m' := by
  intro p
  induction p with
  | zero =>
    intro c hc m' hm
    have e : c = 16 := by omega
    subst e
    exact br_t qd_16' (h m' hm)
  | succ p ih =>
    intro c hc m' hm
    have hb := qd_t_ab x hx c (by omega)
    have fin : wX_findAtom_65 post (wX_findAtom_9 post (nI k) (nI x) S K L (p + 1)) (nI k) (nI x) (nI c) (nI (qd_ab x c)) S K L t d o e m' :=
      qx_a65 hk (by omega) hb (fun v hv => ih (c + 1) (by omega) _ (qd_Mi_s hm hv))
    refine br_f (qd_16 (by omega)) (pk_le 10 x (fun w => ?_) (fun w => ?_))
    · refine ⟨by decide, ⟨by decide, ?_⟩⟩
      rw [qd_r2 w hx, qd_r1 w hx]
      simp only [wpX_thing]
      rw [qd_th (by omega), qd_th (by omega)]
      refine nm_r (e' := nI (qd_ab x c)) ?_ fin
      unfold qd_ab
      rw [if_neg (by omega), show (2 : Int32) = nI 2 from rfl, pk_mul, nI_add, nI_add]
    · rw [qd_r0 h6]
      simp only [wpX_thing]
      rw [qd_th (by omega)]
      unfold qd_ab at fin
      rw [if_pos w] at fin
      exact fin
theorem qx_atom {post : SX → Prop} {S K : Int32} {L : Int64} {T : Nat → Nat} {d o e : Nat → Int32} {m : Nat → Int64} {k : Nat} (hk : k < 13) (h6 : 6 ≤ T k) (hx : T k < 26) (h : ∀ m', qd_Mi k 16 m m' (qd_at (T k)) → post (S, K, L, qd_t T, d, o, e, m')) : wpX_findAtom post (S, K, L, qd_t T, d, o, e, m) (nI k) :=
  ⟨vp_in_nI hk (by omega), nm_r (e' := nI (T k)) (by rw [nI_clamp (by omega)]; rfl) ⟨17, qx_atom_l hk h6 hx h 16 0 (by omega) m qd_Mi_0⟩⟩
theorem qx_not_l {post : SX → Prop} {S K : Int32} {L : Int64} {t d o e : Nat → Int32} {m : Nat → Int64} {k : Nat} {f : qd_V} (hk : k < 13) (hf : ∀ c, c < 16 → ∀ i, i < 64 → qd_lb (m ((k + 1) * 16 + c)) i = f c i) (h : ∀ m', qd_Mi k 16 m m' (qd_no f) → post (S, K, L, t, d, o, e, m')) : ∀ p c, c + p = 16 → ∀ m', qd_Mi k c m m' (qd_no f) → wX_findNot_9 post (nI k) (nI ((k + 1) * 16)) S K L (p + 1) (nI c) t d o e m' := by
  intro p
  induction p with
  | zero =>
    intro c hc m' hm
    have e : c = 16 := by omega
    subst e
    exact br_t qd_16' (h m' hm)
  | succ p ih =>
    intro c hc m' hm
    refine br_f (qd_16 (by omega)) ?_
    rw [qd_ix, nI_add, nI_clamp (by omega), nI_clamp (by omega)]
    refine ⟨vp_in_nI (by omega) (by omega), vp_in_nI (by omega) (by omega), nm_e (nm_r (nI_1 c) (ih (c + 1) (by omega) _ (qd_Mi_s hm (fun i hi => ?_))))⟩
    rw [qd_lb_not _ hi, hm.1 _ (by omega), hf c (by omega) i hi]
    rfl
theorem qx_qu_l {post : SX → Prop} {S K : Int32} {L : Int64} {T : Nat → Nat} {d o e : Nat → Int32} {m : Nat → Int64} {k D : Nat} {f : qd_V} (hk : k < 13) (h26 : T k < 26) (hD : D < 4) (hf : ∀ c, c < 16 → ∀ i, i < 64 → qd_lb (m ((k + 1) * 16 + c)) i = f c i) (h : ∀ m', qd_Mi k 16 m m' (qd_qu (T k) D f) → post (S, K, L, qd_t T, d, o, e, m')) : ∀ p c, c + p = 16 → ∀ m', qd_Mi k c m m' (qd_qu (T k) D f) → wX_findQuantified_19 post (nI k) (nI ((k + 1) * 16)) ((1 : Int32) <<< (nI D &&& 31)) S K L (p + 1) (nI c) (qd_t T) d o e m' := by
  intro p
  induction p with
  | zero =>
    intro c hc m' hm
    have e : c = 16 := by omega
    subst e
    exact br_t qd_16' (h m' hm)
  | succ p ih =>
    intro c hc m' hm
    obtain ⟨e1, l1⟩ := qd_t_cl D hD c (by omega)
    obtain ⟨e2, l2⟩ := qd_t_se D hD c (by omega)
    refine br_f (qd_16 (by omega)) ?_
    rw [e1, e2, qd_ix, nI_add, nI_add, nI_clamp (by omega), nI_clamp (by omega), nI_clamp (by omega), nI_clamp (by omega)]
    refine ⟨vp_in_nI (by omega) (by omega), nm_e ⟨vp_in_nI (by omega) (by omega), nm_e ⟨vp_in_nI (by omega) (by omega), pk_eq (T k) 4 (fun z => ?_) (fun z => ?_)⟩⟩⟩
    · refine ⟨vp_in_nI (by omega) (by omega), nm_e (nm_r (nI_1 c) (ih (c + 1) (by omega) _ (qd_Mi_s hm (fun i hi => ?_))))⟩
      rw [qd_lb_and, hm.1 _ (by omega), hm.1 _ (by omega), hf _ l1 i hi, hf _ l2 i hi]
      unfold qd_qu
      rw [if_pos z]
    · refine ⟨vp_in_nI (by omega) (by omega), nm_e (nm_r (nI_1 c) (ih (c + 1) (by omega) _ (qd_Mi_s hm (fun i hi => ?_))))⟩
      rw [qd_lb_or, hm.1 _ (by omega), hm.1 _ (by omega), hf _ l1 i hi, hf _ l2 i hi]
      unfold qd_qu
      rw [if_neg z]
theorem qx_one {post : SX → Prop} {S K : Int32} {L : Int64} {T : Nat → Nat} {d o e : Nat → Int32} {m : Nat → Int64} {k D : Nat} {f : qd_V} (hk : k < 13) (h26 : T k < 26) (hD : T k ≠ 0 → D < 4) (hd : d k = nI D) (hf : ∀ c, c < 16 → ∀ i, i < 64 → qd_lb (m ((k + 1) * 16 + c)) i = f c i) (h : ∀ m', qd_Mi k 16 m m' (if T k = 0 then qd_no f else qd_qu (T k) D f) → post (S, K, L, qd_t T, d, o, e, m')) : wpX_findOfOne post (S, K, L, qd_t T, d, o, e, m) (nI k) := by
  refine ⟨vp_in_nI hk (by omega), ?_⟩
  rw [nI_clamp (by omega)]
  refine pk_eq (T k) 0 (fun z => ?_) (fun z => ?_)
  · rw [if_pos z] at h
    exact nm_r (qd_ix1 k) ⟨17, qx_not_l hk hf h 16 0 (by omega) m qd_Mi_0⟩
  · rw [if_neg z] at h
    refine nm_r (qd_ix1 k) ⟨vp_in_nI (by omega) (by omega), ?_⟩
    rw [nI_clamp (by omega), hd]
    exact nm_e ⟨17, qx_qu_l hk h26 (hD z) hf h 16 0 (by omega) m qd_Mi_0⟩
theorem qx_f87 {post : SX → Prop} {J : Int32 → (Nat → Int32) → (Nat → Int32) → (Nat → Int32) → (Nat → Int32) → (Nat → Int64) → Prop} {x2 S K : Int32} {L : Int64} {t d o e : Nat → Int32} {m : Nat → Int64} {k c : Nat} {v : Int64} (hk : k < 13) (hc : c < 16) (h : J (nI (c + 1)) t d o e (vp_updL m (k * 16 + c) v)) : wX_findOfTwo_87 post J (nI k) x2 (nI c) v S K L t d o e m := by
  unfold wX_findOfTwo_87
  rw [qd_ix, nI_clamp (by omega)]
  exact ⟨vp_in_nI (by omega) (by omega), nm_e (nm_r (nI_1 c) h)⟩
theorem qx_two_l {post : SX → Prop} {S K : Int32} {L : Int64} {T : Nat → Nat} {d o e : Nat → Int32} {m : Nat → Int64} {k q : Nat} {f g : qd_V} (hk : k < 13) (hkq : k < q) (hq : q < 13) (h26 : T k < 26) (hf : ∀ c, c < 16 → ∀ i, i < 64 → qd_lb (m ((k + 1) * 16 + c)) i = f c i) (hg : ∀ c, c < 16 → ∀ i, i < 64 → qd_lb (m (q * 16 + c)) i = g c i) (h : ∀ m', qd_Mi k 16 m m' (qd_tw (T k) f g) → post (S, K, L, qd_t T, d, o, e, m')) : ∀ p c, c + p = 16 → ∀ m', qd_Mi k c m m' (qd_tw (T k) f g) → wX_findOfTwo_2 post (nI k) (nI q) S K L (p + 1) (nI c) (qd_t T) d o e m' := by
  intro p
  induction p with
  | zero =>
    intro c hc m' hm
    have e : c = 16 := by omega
    subst e
    exact br_t qd_16' (h m' hm)
  | succ p ih =>
    intro c hc m' hm
    refine br_f (qd_16 (by omega)) ?_
    rw [qd_ix1, qd_ix, nI_add, nI_clamp (by omega), nI_clamp (by omega), nI_clamp (by omega)]
    refine ⟨vp_in_nI (by omega) (by omega), nm_e ⟨vp_in_nI (by omega) (by omega), nm_e ⟨vp_in_nI (by omega) (by omega), pk_eq (T k) 1 (fun z => ?_) (fun z => ⟨vp_in_nI (by omega) (by omega), pk_eq (T k) 2 (fun y => ?_) (fun y => ?_)⟩)⟩⟩⟩
    · refine nm_e (qx_f87 hk (by omega) (ih (c + 1) (by omega) _ (qd_Mi_s hm (fun i hi => ?_))))
      rw [qd_lb_and, hm.1 _ (by omega), hm.1 _ (by omega), hf c (by omega) i hi, hg c (by omega) i hi]
      unfold qd_tw
      rw [if_pos z]
    · refine nm_e (qx_f87 hk (by omega) (ih (c + 1) (by omega) _ (qd_Mi_s hm (fun i hi => ?_))))
      rw [qd_lb_or, hm.1 _ (by omega), hm.1 _ (by omega), hf c (by omega) i hi, hg c (by omega) i hi]
      unfold qd_tw
      rw [if_neg z, if_pos y]
    · refine nm_e (qx_f87 hk (by omega) (ih (c + 1) (by omega) _ (qd_Mi_s hm (fun i hi => ?_))))
      rw [qd_lb_or, qd_lb_not _ hi, hm.1 _ (by omega), hm.1 _ (by omega), hf c (by omega) i hi, hg c (by omega) i hi]
      unfold qd_tw
      rw [if_neg z, if_neg y]
/-! the chain of subformulas -/
def qd_Ch (s : Nat) (e : Nat → Int32) (m : Nat → Int64) : Nat → List qd_V → Prop
  | p, [] => p = s
  | p, f :: r => p < s ∧ (∃ q, e p = nI q ∧ p < q ∧ q ≤ s ∧ qd_Ch s e m q r) ∧ ∀ c, c < 16 → ∀ i, i < 64 → qd_lb (m (p * 16 + c)) i = f c i
theorem qd_Ch_f {s : Nat} {e e' : Nat → Int32} {m m' : Nat → Int64} : ∀ {l : List qd_V} {p : Nat}, (∀ j, p ≤ j → e' j = e j) → (∀ j, p * 16 ≤ j → m' j = m j) → qd_Ch s e m p l → qd_Ch s e' m' p l
  | [], _, _, _, h => h
  | f :: r, p, he, hm, ⟨h1, ⟨q, h2, h3, h4, h5⟩, h6⟩ =>
    ⟨h1, ⟨q, by rw [he p (Nat.le_refl _)]; exact h2, h3, h4, qd_Ch_f (fun j hj => he j (by omega)) (fun j hj => hm j (by omega)) h5⟩, fun c hc i hi => by rw [hm _ (by omega)]; exact h6 c hc i hi⟩
theorem qd_Ch_n {s p q : Nat} {e : Nat → Int32} {m m' : Nat → Int64} {x : Int32} {f : qd_V} {l : List qd_V} (hp : p < s) (hx : x = nI q) (hpq : p < q) (hq : q ≤ s) (hm : qd_Mi p 16 m m' f) (h : qd_Ch s e m q l) : qd_Ch s (upd e p x) m' p (f :: l) :=
  ⟨hp, ⟨q, by rw [pk_us]; exact hx, hpq, hq, qd_Ch_f (fun j hj => pk_un (by omega)) (fun j hj => hm.1 j (by omega)) h⟩, hm.2⟩
theorem qd_sp0 {x d : Nat} {l : List qd_V} (h : qd_ar x = 0) : qd_sp x d l = qd_at x :: l := by
  unfold qd_sp
  rw [if_pos h]
theorem qd_sp1 {x d : Nat} {l : List qd_V} {f : qd_V} (h : qd_ar x = 1) : qd_sp x d (f :: l) = (if x = 0 then qd_no f else qd_qu x d f) :: l := by
  unfold qd_sp
  rw [if_neg (by omega)]
  simp only [if_pos h]
theorem qd_sp2 {x d : Nat} {l : List qd_V} {f g : qd_V} (h : qd_ar x = 2) : qd_sp x d (f :: g :: l) = qd_tw x f g :: l := by
  unfold qd_sp
  rw [if_neg (by omega)]
  simp only [if_neg (show ¬ qd_ar x = 1 by omega)]
theorem qd_ar0 {x : Nat} (h : qd_ar x = 0) : 6 ≤ x := by
  unfold qd_ar at h
  by_cases z : x < 6
  · rw [if_pos z] at h
    split at h <;> omega
  · omega
theorem qd_ar1 {x : Nat} (h : qd_ar x = 1) (h0 : x ≠ 0) : qd_q x = 1 := by
  unfold qd_ar at h
  unfold qd_q
  by_cases z : x < 6
  · rw [if_pos z] at h
    by_cases y : x = 1 ∨ x = 2 ∨ x = 3
    · rw [if_pos y] at h; omega
    · rw [if_pos (by omega)]
  · rw [if_neg z] at h; omega
theorem qx_models_l {post : Int64 → SX → Prop} {T : Nat → Nat} {s : Nat} (G : qd_G T s) (h0 : qd_op T s = 0) {K : Int32} {L : Int64} {d o : Nat → Int32} (hd : ∀ j, j < s → d j = nI (qd_D T j)) (h : ∀ e' m', qd_Ch s e' m' 0 (qd_lr T s 0) → post (m' 0) (nI s, K, L, qd_t T, d, o, e', m')) : ∀ p, p ≤ s → ∀ e m, qd_Ch s e m p (qd_lr T s p) → wX_findModels_24 post (p + 1) (nI p - 1) (nI s) K L (qd_t T) d o e m := by
  obtain ⟨hs, h26, H, hq4⟩ := G
  intro p
  induction p with
  | zero =>
    intro _ e m hc
    exact br_t (by decide) (h e m hc)
  | succ p ih =>
    intro hp e m hc
    rw [nI_pred]
    refine br_f (nI_pos (by omega)) ⟨vp_in_nI (by omega) (by omega), ?_⟩
    rw [nI_clamp (by omega)]
    refine qx_parts (h26 p) ?_
    have len := qd_lr_l H h0 (show p + 1 ≤ s by omega)
    have ops := qd_op_s (H p (by omega))
    have opp := H p (by omega)
    have arl := qd_ar_le (T p)
    have lrp := qd_lr_p (T := T) (show p < s by omega)
    have nx : nI p + (-1) = nI p - 1 := (Int32.sub_eq_add_neg _ _).symm
    refine pk_eq (qd_ar (T p)) 0 (fun z => ?_) (fun z => pk_eq (qd_ar (T p)) 2 (fun y => ?_) (fun y => ?_))
    · rw [qd_sp0 z] at lrp
      refine ⟨vp_in_nI (by omega) (by omega), nm_r (congrArg (upd e p) (nI_1 p)) ?_⟩
      refine qx_atom (by omega) (qd_ar0 z) (h26 p) (fun m' hm => nm_r nx (ih (by omega) _ _ ?_))
      rw [lrp]
      exact qd_Ch_n (by omega) rfl (by omega) (by omega) hm hc
    · match hl : qd_lr T s (p + 1) with
      | [] => rw [hl] at len; simp at len; omega
      | [f] => rw [hl] at len; simp at len; omega
      | f :: g :: r =>
        rw [hl] at hc
        rw [hl, qd_sp2 y] at lrp
        obtain ⟨c1, ⟨q, c2, c3, c4, ⟨b1, ⟨q2, b2, b3, b4, b5⟩, b6⟩⟩, c6⟩ := hc
        rw [nI_1, nI_clamp (by omega), c2]
        refine ⟨vp_in_nI (by omega) (by omega), nm_e ?_⟩
        rw [nI_clamp (by omega), b2]
        refine ⟨vp_in_nI (by omega) (by omega), vp_in_nI (by omega) (by omega), nm_e ?_⟩
        refine ⟨17, qx_two_l (by omega) (by omega) (by omega) (h26 p) c6 b6 (fun m' hm => nm_r nx (ih (by omega) _ _ ?_)) 16 0 (by omega) m qd_Mi_0⟩
        rw [lrp]
        exact qd_Ch_n (by omega) rfl (by omega) (by omega) hm b5
    · have y1 : qd_ar (T p) = 1 := by omega
      match hl : qd_lr T s (p + 1) with
      | [] => rw [hl] at len; simp at len; omega
      | f :: r =>
        rw [hl] at hc
        rw [hl, qd_sp1 y1] at lrp
        obtain ⟨c1, ⟨q, c2, c3, c4, c5⟩, c6⟩ := hc
        rw [nI_1, nI_clamp (by omega), c2]
        refine ⟨vp_in_nI (by omega) (by omega), vp_in_nI (by omega) (by omega), nm_e ?_⟩
        refine qx_one (D := qd_D T p) (by omega) (h26 p) (fun w => ?_) (hd p (by omega)) c6 (fun m' hm => nm_r nx (ih (by omega) _ _ ?_))
        · have := qd_D_le hq4 (show p < s by omega) opp (qd_ar1 y1 w)
          omega
        · rw [lrp]
          exact qd_Ch_n (by omega) rfl (by omega) (by omega) hm c5
theorem qx_models {post : Int64 → SX → Prop} {T : Nat → Nat} {s : Nat} (G : qd_G T s) (h0 : qd_op T s = 0) {K : Int32} {L : Int64} {d o e : Nat → Int32} {m : Nat → Int64} (h : ∀ r d' o' e' m', (∀ i, i < 64 → qd_lb r i = qd_tr T s i) → post r (nI s, K, L, qd_t T, d', o', e', m')) : wpX_findModels post (nI s, K, L, qd_t T, d, o, e, m) := by
  obtain ⟨f, ef, tf⟩ := qd_lr_0 G.2.2.1 h0
  have hs := G.1
  refine qx_depths G (fun d' o' hd _ => ⟨vp_in_nI (by omega) (by omega), nm_e (nm_e ⟨s + 1, qx_models_l G h0 hd (fun e' m' hc => ?_) s (Nat.le_refl _) _ _ ?_⟩)⟩)
  · rw [ef] at hc
    refine h _ _ _ _ _ (fun i hi => ?_)
    rw [tf i]
    exact hc.2.2 0 (by omega) i hi
  · rw [qd_lr_s]
    rfl
