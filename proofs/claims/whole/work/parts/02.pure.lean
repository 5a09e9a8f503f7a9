/-! the pure picture: arities, the stack of open depths, the values of the subformulas -/
def qd_ar (x : Nat) : Nat := if x < 6 then (if x = 1 ∨ x = 2 ∨ x = 3 then 2 else 1) else 0
def qd_q (x : Nat) : Nat := if x = 4 ∨ x = 5 then 1 else 0
def qd_os (T : Nat → Nat) : Nat → List Nat
  | 0 => [0]
  | k + 1 => match qd_os T k with
    | [] => []
    | d :: r => List.replicate (qd_ar (T k)) (d + qd_q (T k)) ++ r
def qd_op (T : Nat → Nat) (k : Nat) : Nat := (qd_os T k).length
def qd_D (T : Nat → Nat) (k : Nat) : Nat := (qd_os T k).headD 0
def qd_qc (T : Nat → Nat) : Nat → Nat
  | 0 => 0
  | k + 1 => qd_qc T k + qd_q (T k)
def qd_t (T : Nat → Nat) : Nat → Int32 := fun k => nI (T k)
theorem qd_ar_le (x : Nat) : qd_ar x ≤ 2 := by
  unfold qd_ar
  split
  · split <;> omega
  · omega
theorem qd_q_le (x : Nat) : qd_q x ≤ 1 := by
  unfold qd_q
  split <;> omega
theorem qd_os_ext {T T' : Nat → Nat} : ∀ {k : Nat}, (∀ j, j < k → T j = T' j) → qd_os T k = qd_os T' k
  | 0, _ => rfl
  | k + 1, h => by
    have e := qd_os_ext (T := T) (T' := T') (k := k) (fun j hj => h j (by omega))
    unfold qd_os
    rw [e, h k (by omega)]
theorem qd_op_ext {T T' : Nat → Nat} {k : Nat} (h : ∀ j, j < k → T j = T' j) : qd_op T k = qd_op T' k := by
  unfold qd_op
  rw [qd_os_ext h]
theorem qd_qc_ext {T T' : Nat → Nat} : ∀ {k : Nat}, (∀ j, j < k → T j = T' j) → qd_qc T k = qd_qc T' k
  | 0, _ => rfl
  | k + 1, h => by
    have e := qd_qc_ext (T := T) (T' := T') (k := k) (fun j hj => h j (by omega))
    unfold qd_qc
    rw [e, h k (by omega)]
theorem qd_os_cons {T : Nat → Nat} {k : Nat} (h : 0 < qd_op T k) : ∃ r, qd_os T k = qd_D T k :: r ∧ qd_op T k = r.length + 1 := by
  unfold qd_op at h
  unfold qd_D qd_op
  cases e : qd_os T k with
  | nil => rw [e] at h; exact absurd h (by simp)
  | cons d r => exact ⟨r, rfl, rfl⟩
theorem qd_os_s {T : Nat → Nat} {k : Nat} {r : List Nat} (h : qd_os T k = qd_D T k :: r) : qd_os T (k + 1) = List.replicate (qd_ar (T k)) (qd_D T k + qd_q (T k)) ++ r := by
  rw [qd_os, h]
theorem qd_op_s {T : Nat → Nat} {k : Nat} (h : 0 < qd_op T k) : qd_op T (k + 1) + 1 = qd_op T k + qd_ar (T k) := by
  obtain ⟨r, e, l⟩ := qd_os_cons h
  rw [l]
  unfold qd_op
  rw [qd_os_s e, List.length_append, List.length_replicate]
  omega
theorem qd_op_le {T : Nat → Nat} : ∀ {k : Nat}, (∀ j, j < k → 0 < qd_op T j) → qd_op T k ≤ k + 1
  | 0, _ => Nat.le_refl 1
  | k + 1, h => by
    have a := qd_op_le (T := T) (k := k) (fun j hj => h j (by omega))
    have b := qd_op_s (h k (by omega))
    have c := qd_ar_le (T k)
    omega
theorem qd_dq {T : Nat → Nat} : ∀ {k : Nat} {d : Nat}, d ∈ qd_os T k → d ≤ qd_qc T k
  | 0, d, h => by
    unfold qd_os at h
    rw [List.mem_singleton] at h
    omega
  | k + 1, d, h => by
    unfold qd_os at h
    unfold qd_qc
    cases e : qd_os T k with
    | nil => rw [e] at h; exact absurd h (by simp)
    | cons c r =>
      rw [e] at h
      rcases List.mem_append.mp h with h | h
      · have a := List.eq_of_mem_replicate h
        have b := qd_dq (T := T) (k := k) (d := c) (by rw [e]; exact List.mem_cons_self)
        omega
      · have b := qd_dq (T := T) (k := k) (d := d) (by rw [e]; exact List.mem_cons_of_mem _ h)
        omega
theorem qd_qc_mono {T : Nat → Nat} {a b : Nat} (h : a ≤ b) : qd_qc T a ≤ qd_qc T b := by
  induction h with
  | refl => exact Nat.le_refl _
  | step _ ih => exact Nat.le_trans ih (Nat.le_add_right _ _)
theorem qd_qc_le {T : Nat → Nat} : ∀ k : Nat, qd_qc T k ≤ k
  | 0 => Nat.le_refl 0
  | k + 1 => by
    have a := qd_qc_le (T := T) k
    have b := qd_q_le (T k)
    unfold qd_qc
    omega
/-- a quantifier's own number is at most 3 -/
theorem qd_D_le {T : Nat → Nat} {s k : Nat} (hq : qd_qc T s ≤ 4) (hk : k < s) (h : 0 < qd_op T k) (ht : qd_q (T k) = 1) : qd_D T k ≤ 3 := by
  obtain ⟨r, e, _⟩ := qd_os_cons h
  have a := qd_dq (T := T) (k := k) (d := qd_D T k) (by rw [e]; exact List.mem_cons_self)
  have b := qd_qc_mono (T := T) (a := k + 1) (b := s) (by omega)
  have c : qd_qc T (k + 1) = qd_qc T k + qd_q (T k) := rfl
  omega
theorem qd_D_14 {T : Nat → Nat} {k : Nat} (h : 0 < qd_op T k) : qd_D T k ≤ k := by
  obtain ⟨r, e, _⟩ := qd_os_cons h
  have a := qd_dq (T := T) (k := k) (d := qd_D T k) (by rw [e]; exact List.mem_cons_self)
  have b := qd_qc_le (T := T) k
  omega
/-! a stack in an array -/
def qd_St (o : Nat → Int32) : List Nat → Prop
  | [] => True
  | d :: r => o r.length = nI d ∧ qd_St o r
theorem qd_St_u {o : Nat → Int32} {k : Nat} {x : Int32} : ∀ {l : List Nat}, l.length ≤ k → qd_St o l → qd_St (upd o k x) l
  | [], _, _ => trivial
  | d :: r, h, H => ⟨by rw [pk_un (by simp at h; omega)]; exact H.1, qd_St_u (by simp at h; omega) H.2⟩
theorem qd_St_p {o : Nat → Int32} {d : Nat} {l : List Nat} (H : qd_St o l) : qd_St (upd o l.length (nI d)) (d :: l) :=
  ⟨pk_us, qd_St_u (Nat.le_refl _) H⟩
theorem qd_rep (p d : Nat) (l : List Nat) : List.replicate p d ++ d :: l = List.replicate (p + 1) d ++ l := by
  rw [List.replicate_succ', List.append_assoc]
  rfl
/-! the values -/
abbrev qd_V : Type := Nat → Nat → Bool
def qd_ab (x c : Nat) : Nat := if x < 10 then c / 2 ^ (x - 6) % 2 else 2 + 2 * (c / 2 ^ ((x - 10) / 4) % 2) + c / 2 ^ ((x - 10) % 4) % 2
def qd_at (x : Nat) : qd_V := fun c i => decide (i / 2 ^ qd_ab x c % 2 = 1)
def qd_cl (d c : Nat) : Nat := if c / 2 ^ d % 2 = 1 then c - 2 ^ d else c
def qd_se (d c : Nat) : Nat := if c / 2 ^ d % 2 = 1 then c else c + 2 ^ d
def qd_no (f : qd_V) : qd_V := fun c i => !f c i
def qd_qu (x d : Nat) (f : qd_V) : qd_V := fun c i => if x = 4 then f (qd_cl d c) i && f (qd_se d c) i else f (qd_cl d c) i || f (qd_se d c) i
def qd_tw (x : Nat) (f g : qd_V) : qd_V := fun c i => if x = 1 then f c i && g c i else if x = 2 then f c i || g c i else !f c i || g c i
def qd_sp (x d : Nat) (l : List qd_V) : List qd_V :=
  if qd_ar x = 0 then qd_at x :: l else
  match l with
  | [] => []
  | f :: r => if qd_ar x = 1 then (if x = 0 then qd_no f else qd_qu x d f) :: r else
    match r with
    | [] => []
    | g :: r' => qd_tw x f g :: r'
def qd_ls (T : Nat → Nat) (s : Nat) : Nat → List qd_V
  | 0 => []
  | m + 1 => qd_sp (T (s - 1 - m)) (qd_D T (s - 1 - m)) (qd_ls T s m)
def qd_lr (T : Nat → Nat) (s p : Nat) : List qd_V := qd_ls T s (s - p)
def qd_tr (T : Nat → Nat) (s : Nat) (i : Nat) : Bool := ((qd_lr T s 0).headD (fun _ _ => false)) 0 i
theorem qd_lr_s (T : Nat → Nat) (s : Nat) : qd_lr T s s = [] := by
  unfold qd_lr
  rw [Nat.sub_self]
  rfl
theorem qd_lr_p {T : Nat → Nat} {s p : Nat} (h : p < s) : qd_lr T s p = qd_sp (T p) (qd_D T p) (qd_lr T s (p + 1)) := by
  obtain ⟨m, hm⟩ : ∃ m, s = p + 1 + m := ⟨s - (p + 1), by omega⟩
  subst hm
  unfold qd_lr
  rw [show p + 1 + m - p = m + 1 by omega, show p + 1 + m - (p + 1) = m by omega, qd_ls, show p + 1 + m - 1 - m = p by omega]
theorem qd_sp_len {x d : Nat} {l : List qd_V} (h : qd_ar x ≤ l.length) : (qd_sp x d l).length + qd_ar x = l.length + 1 := by
  have a := qd_ar_le x
  unfold qd_sp
  by_cases h0 : qd_ar x = 0
  · rw [if_pos h0, h0]; rfl
  · rw [if_neg h0]
    cases l with
    | nil => simp at h; omega
    | cons f r =>
      by_cases h1 : qd_ar x = 1
      · simp only [if_pos h1, List.length_cons]; omega
      · simp only [if_neg h1]
        cases r with
        | nil => simp at h; omega
        | cons g r => simp only [List.length_cons]; omega
theorem qd_lr_len {T : Nat → Nat} {s : Nat} (H : ∀ j, j < s → 0 < qd_op T j) (h0 : qd_op T s = 0) : ∀ m, m ≤ s → (qd_lr T s (s - m)).length = qd_op T (s - m)
  | 0, _ => by rw [Nat.sub_zero, qd_lr_s, h0]; rfl
  | m + 1, hm => by
    have ih := qd_lr_len H h0 m (by omega)
    have e : s - m = s - (m + 1) + 1 := by omega
    rw [e] at ih
    have a := H (s - (m + 1)) (by omega)
    have b := qd_op_s a
    have c := qd_sp_len (x := T (s - (m + 1))) (d := qd_D T (s - (m + 1))) (l := qd_lr T s (s - (m + 1) + 1)) (by omega)
    rw [qd_lr_p (show s - (m + 1) < s by omega)]
    omega
theorem qd_lr_l {T : Nat → Nat} {s p : Nat} (H : ∀ j, j < s → 0 < qd_op T j) (h0 : qd_op T s = 0) (hp : p ≤ s) : (qd_lr T s p).length = qd_op T p := by
  have a := qd_lr_len H h0 (s - p) (by omega)
  rw [show s - (s - p) = p by omega] at a
  exact a
theorem qd_lr_0 {T : Nat → Nat} {s : Nat} (H : ∀ j, j < s → 0 < qd_op T j) (h0 : qd_op T s = 0) : ∃ f, qd_lr T s 0 = [f] ∧ ∀ i, qd_tr T s i = f 0 i := by
  have a := qd_lr_l H h0 (Nat.zero_le s)
  unfold qd_tr
  have b : qd_op T 0 = 1 := rfl
  rw [b] at a
  cases e : qd_lr T s 0 with
  | nil => rw [e] at a; exact absurd a (by simp)
  | cons f r =>
    rw [e] at a
    cases r with
    | nil => exact ⟨f, rfl, fun _ => rfl⟩
    | cons g r => simp at a
