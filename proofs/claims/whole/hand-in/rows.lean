section
/-! rows pasted from kit/rows -/
theorem pk_us {f : Nat → Int32} {k : Nat} {x : Int32} : upd f k x k = x := if_pos rfl
theorem pk_un {f : Nat → Int32} {k j : Nat} {x : Int32} (h : j ≠ k) : upd f k x j = f j := if_neg h
theorem pk_uLs {f : Nat → Int64} {k : Nat} {x : Int64} : vp_updL f k x k = x := if_pos rfl
theorem pk_uLn {f : Nat → Int64} {k j : Nat} {x : Int64} (h : j ≠ k) : vp_updL f k x j = f j := if_neg h
theorem pk_sub {a b : Nat} (h : b ≤ a) : nI a - nI b = nI (a - b) := by
  obtain ⟨c, rfl⟩ : ∃ c, a = c + b := ⟨a - b, by omega⟩
  rw [← nI_add, Int32.add_sub_cancel, Nat.add_sub_cancel]
theorem pk_m1 (n : Nat) : nI (n + 1) + (-1) = nI n := by
  rw [← nI_1, Int32.add_assoc, show (1 : Int32) + (-1) = 0 from rfl, Int32.add_zero]
theorem pk_mul (a b : Nat) : nI a * nI b = nI (a * b) := (Int32.ofNat_mul a b).symm
theorem pk_div {a d : Nat} (ha : a < 2 ^ 31) (h0 : 0 < d) (hd : d < 2 ^ 31) : nI a / nI d = nI (a / d) := by
  apply Int32.toInt_inj.mp
  rw [lg_idiv_nonneg (by rw [nI_toInt ha]; omega) (by rw [nI_toInt hd]; omega), nI_toInt ha, nI_toInt hd, nI_toInt (Nat.lt_of_le_of_lt (Nat.div_le_self a d) ha)]
  first | rfl | exact (Int.natCast_ediv _ _).symm
theorem pk_rem {a d : Nat} (ha : a < 2 ^ 31) (h0 : 0 < d) (hd : d < 2 ^ 31) : nI a - nI a / nI d * nI d = nI (a % d) := by
  rw [pk_div ha h0 hd, pk_mul, pk_sub (Nat.div_mul_le_self a d)]
  exact congrArg nI (by have := Nat.div_add_mod' a d; omega)
theorem pk_ix (x : Int32) {n : Nat} (hn : n < 2 ^ 31) : x < 0 ∨ nI n ≤ x ∨ ∃ j : Nat, j < n ∧ x = nI j := by
  by_cases h : x < 0
  · exact Or.inl h
  · obtain ⟨j, hj, rfl⟩ := nI_of h
    by_cases h2 : j < n
    · exact Or.inr (Or.inr ⟨j, h2, rfl⟩)
    · exact Or.inr (Or.inl (nI_le (by omega) hj))
theorem pk_le {x y : Int32} {A B : Prop} (a b : Nat) (f : a ≤ b → A) (g : b < a → B) (hx : x = nI a := by rfl) (hy : y = nI b := by rfl) (ha : a < 2 ^ 31 := by omega) (hb : b < 2 ^ 31 := by omega) : (x ≤ y → A) ∧ (¬ x ≤ y → B) := by
  subst hx hy
  rw [nI_leI ha hb]
  exact ⟨f, fun z => g (by omega)⟩
theorem pk_lt {x y : Int32} {A B : Prop} (a b : Nat) (f : a < b → A) (g : b ≤ a → B) (hx : x = nI a := by rfl) (hy : y = nI b := by rfl) (ha : a < 2 ^ 31 := by omega) (hb : b < 2 ^ 31 := by omega) : (x < y → A) ∧ (¬ x < y → B) := by
  subst hx hy
  rw [nI_ltI ha hb]
  exact ⟨f, fun z => g (by omega)⟩
theorem pk_eq {x y : Int32} {A B : Prop} (a b : Nat) (f : a = b → A) (g : a ≠ b → B) (hx : x = nI a := by rfl) (hy : y = nI b := by rfl) (ha : a < 2 ^ 31 := by omega) (hb : b < 2 ^ 31 := by omega) : (x = y → A) ∧ (¬ x = y → B) := by
  subst hx hy
  rw [nI_eq ha hb]
  exact ⟨f, g⟩
theorem pk_in {x : Int32} (n N : Nat) (h : n < N) (hx : x = nI n := by rfl) (hN : N < 2 ^ 31 := by omega) : vp_in x N := by
  subst hx
  exact vp_in_nI h hN
theorem pk_cl {x : Int32} (n : Nat) (hx : x = nI n := by rfl) (h : n < 2 ^ 31 := by omega) : x.toNatClampNeg = n := by
  subst hx
  exact nI_clamp h
theorem pk_tn {n : Nat} (h : n < 2 ^ 32) : (nI n).toBitVec.toNat = n := Nat.mod_eq_of_lt h
theorem pk_and (x : Int32) {m : Int32} (k : Nat) (hm : m.toBitVec.toNat = 2 ^ k - 1) : x &&& m = nI (x.toBitVec.toNat % 2 ^ k) := by
  apply Int32.toBitVec_inj.mp
  apply BitVec.eq_of_toNat_eq
  rw [Int32.toBitVec_and, BitVec.toNat_and, hm, Nat.and_two_pow_sub_one_eq_mod]
  show _ = (BitVec.ofNat 32 _).toNat
  rw [BitVec.toNat_ofNat]
  exact (Nat.mod_eq_of_lt (Nat.lt_of_le_of_lt (Nat.mod_le _ _) x.toBitVec.isLt)).symm
theorem pk_andN {n : Nat} (h : n < 2 ^ 32) {m : Int32} (k : Nat) (hm : m.toBitVec.toNat = 2 ^ k - 1) : nI n &&& m = nI (n % 2 ^ k) := by
  rw [pk_and _ k hm, pk_tn h]
theorem pk_shl (a s : Int32) (k : Nat) (hs : (s.toBitVec.smod 32).toNat = k) : (a <<< s).toBitVec.toNat = a.toBitVec.toNat * 2 ^ k % 2 ^ 32 := by
  show (a.toBitVec <<< (s.toBitVec.smod 32).toNat).toNat = _
  rw [hs, BitVec.toNat_shiftLeft, Nat.shiftLeft_eq]
theorem pk_shlN {n : Nat} (s : Int32) (k : Nat) (hs : (s.toBitVec.smod 32).toNat = k) (h : n * 2 ^ k < 2 ^ 32) : nI n <<< s = nI (n * 2 ^ k) := by
  apply Int32.toBitVec_inj.mp
  apply BitVec.eq_of_toNat_eq
  have hn : n < 2 ^ 32 := Nat.lt_of_le_of_lt (Nat.le_mul_of_pos_right n (Nat.two_pow_pos k)) h
  rw [pk_shl _ _ k hs, pk_tn hn, pk_tn h, Nat.mod_eq_of_lt h]
theorem pk_shr (a s : Int32) (k : Nat) (hs : (s.toBitVec.smod 32).toNat = k) : (a >>> s).toInt = a.toInt >>> k := by
  show (a.toBitVec.sshiftRight (s.toBitVec.smod 32).toNat).toInt = _
  rw [hs, BitVec.toInt_sshiftRight]
  rfl
theorem pk_shrN {n : Nat} (h : n < 2 ^ 31) (s : Int32) (k : Nat) (hs : (s.toBitVec.smod 32).toNat = k) : nI n >>> s = nI (n / 2 ^ k) := by
  apply Int32.toInt_inj.mp
  have h2 : n / 2 ^ k ≤ n := Nat.div_le_self _ _
  rw [pk_shr _ _ k hs, nI_toInt h, nI_toInt (by omega), Int.shiftRight_eq_div_pow]
  rfl
def bt (x : Int32) (i : Nat) : Bool := x.toBitVec.getLsbD i
theorem b_ext {x y : Int32} (h : ∀ i, i < 32 → bt x i = bt y i) : x = y := Int32.toBitVec_inj.mp (BitVec.eq_of_getLsbD_eq (fun i hi => h i hi))
theorem b_or (x y : Int32) (i : Nat) : bt (x ||| y) i = (bt x i || bt y i) := by unfold bt; rw [Int32.toBitVec_or, BitVec.getLsbD_or]
theorem b_and (x y : Int32) (i : Nat) : bt (x &&& y) i = (bt x i && bt y i) := by unfold bt; rw [Int32.toBitVec_and, BitVec.getLsbD_and]
theorem b_xor (x y : Int32) (i : Nat) : bt (x ^^^ y) i = (bt x i ^^ bt y i) := by unfold bt; rw [Int32.toBitVec_xor, BitVec.getLsbD_xor]
theorem b_big {x : Int32} {i : Nat} (h : 32 ≤ i) : bt x i = false := BitVec.getLsbD_of_ge _ _ h
theorem b_65535 (i : Nat) : bt 65535 i = decide (i < 16) := by
  rcases Nat.lt_or_ge i 32 with h | h
  · exact (by decide +kernel : ∀ i, i < 32 → bt 65535 i = decide (i < 16)) i h
  · rw [b_big h, decide_eq_false (by omega)]
theorem b_m1 : ∀ i, i < 32 → bt (-1) i = true := by decide +kernel
theorem b_0 (i : Nat) : bt 0 i = false := BitVec.getLsbD_zero
theorem s_l : ∀ n, n < 32 → ((nI n &&& 31).toBitVec.smod 32).toNat = n := by decide +kernel
theorem b_shl (n : Nat) (hn : n < 32) (x : Int32) {i : Nat} (hi : i < 32) : bt (x <<< (nI n &&& 31)) i = (decide (n ≤ i) && bt x (i - n)) := by
  unfold bt
  rw [Int32.toBitVec_shiftLeft]
  show (x.toBitVec <<< ((nI n &&& 31).toBitVec.smod 32).toNat).getLsbD i = _
  rw [s_l n hn, BitVec.getLsbD_shiftLeft]
  rcases Nat.lt_or_ge i n with h | h
  · simp [h, Nat.not_le.mpr h]
  · simp [hi, h, Nat.not_lt.mpr h]
theorem b_sshr (n : Nat) (hn : n < 32) (x : Int32) {i : Nat} (hi : i < 32) : bt (x >>> (nI n &&& 31)) i = if n + i < 32 then bt x (n + i) else bt x 31 := by
  unfold bt
  rw [Int32.toBitVec_shiftRight]
  show (x.toBitVec.sshiftRight ((nI n &&& 31).toBitVec.smod 32).toNat).getLsbD i = _
  rw [s_l n hn, BitVec.getLsbD_sshiftRight, BitVec.msb_eq_getLsbD_last]
  simp [hi]
theorem nx_xor (a b : Nat) : nI a ^^^ nI b = nI (a ^^^ b) := by
  apply Int32.toBitVec_inj.1
  show BitVec.ofNat 32 a ^^^ BitVec.ofNat 32 b = BitVec.ofNat 32 (a ^^^ b)
  apply BitVec.eq_of_getLsbD_eq
  intro i hi
  simp [hi]
theorem ts_nf {x : Bool} (h : ¬ x = false) : x = true := by cases x <;> first | rfl | exact absurd rfl h
theorem ts_nt {x : Bool} (h : ¬ x = true) : x = false := by cases x <;> first | rfl | exact absurd rfl h
theorem ts_bit {w : Int64} {s : UInt64} {j : Nat} (hj : j < 64) (hs : s.toNat = j) : ((w.toUInt64 >>> s).toInt64 &&& 1) = 0 ↔ w.toBitVec.getLsbD j = false := by
  have e : (w.toUInt64 >>> s).toInt64.toBitVec = w.toBitVec >>> j := by
    apply BitVec.eq_of_toNat_eq
    show (w.toUInt64 >>> s).toNat = _
    rw [UInt64.toNat_shiftRight, hs, Nat.mod_eq_of_lt hj, BitVec.toNat_ushiftRight]
    rfl
  rw [← Int64.toBitVec_inj, Int64.toBitVec_and, e]
  show w.toBitVec >>> j &&& 1#64 = 0#64 ↔ _
  constructor
  · intro h
    have t := congrArg (fun x => x.getLsbD 0) h
    simpa using t
  · intro h
    apply BitVec.eq_of_getLsbD_eq
    intro i hi
    cases i with
    | zero => simp [h]
    | succ i => simp
theorem wb_tb (n : Nat) : (lN n).toBitVec = BitVec.ofNat 64 n := rfl
theorem wb_inj {a b : Int64} (h : a.toBitVec = b.toBitVec) : a = b := Int64.toBitVec_inj.mp h
theorem wb_tn {n : Nat} (h : n < 2 ^ 64) : (lN n).toBitVec.toNat = n := by rw [wb_tb, BitVec.toNat_ofNat, Nat.mod_eq_of_lt h]
theorem wb_of (x : Int64) : ∃ n, n < 2 ^ 64 ∧ x = lN n := ⟨x.toBitVec.toNat, x.toBitVec.isLt, wb_inj (by rw [wb_tb]; simp)⟩
theorem wb_c : ∀ k, k < 64 → ((nI k).toInt64 &&& 63) = lN k := by decide +kernel
theorem wb_cu : ∀ k, k < 64 → ((nI k).toInt64.toUInt64 &&& Int64.toUInt64 63) = UInt64.ofNat k := by decide +kernel
theorem wb_sm : ∀ k, k < 64 → (BitVec.ofNat 64 k).smod 64 = BitVec.ofNat 64 k := by decide +kernel
end
section
/-! the pure picture: arities, the stack of open depths, the values of the subformulas -/
def qd_ar (x : Nat) : Nat := if x < 6 then (if x = 1 ∨ x = 2 ∨ x = 3 then 2 else 1) else 0
def qd_q (x : Nat) : Nat := if x = 4 ∨ x = 5 then 1 else 0
def qd_os (T : Nat → Nat) : Nat → List Nat
  | 0 => [0]
  | k + 1 => match qd_os T k with
    | [] => []
    | d :: r => List.replicate (qd_ar (T k)) (d + qd_q (T k)) ++ r
def qd_op (T : Nat → Nat) (k : Nat) : Nat := (qd_os T k).length
def qd_D (T : Nat → Nat) (k : Nat) : Nat := (qd_os T k).headD 0
def qd_qc (T : Nat → Nat) : Nat → Nat
  | 0 => 0
  | k + 1 => qd_qc T k + qd_q (T k)
def qd_t (T : Nat → Nat) : Nat → Int32 := fun k => nI (T k)
theorem qd_ar_le (x : Nat) : qd_ar x ≤ 2 := by
  unfold qd_ar
  split
  · split <;> omega
  · omega
theorem qd_q_le (x : Nat) : qd_q x ≤ 1 := by
  unfold qd_q
  split <;> omega
theorem qd_os_ext {T T' : Nat → Nat} : ∀ {k : Nat}, (∀ j, j < k → T j = T' j) → qd_os T k = qd_os T' k
  | 0, _ => rfl
  | k + 1, h => by
    have e := qd_os_ext (T := T) (T' := T') (k := k) (fun j hj => h j (by omega))
    unfold qd_os
    rw [e, h k (by omega)]
theorem qd_op_ext {T T' : Nat → Nat} {k : Nat} (h : ∀ j, j < k → T j = T' j) : qd_op T k = qd_op T' k := by
  unfold qd_op
  rw [qd_os_ext h]
theorem qd_qc_ext {T T' : Nat → Nat} : ∀ {k : Nat}, (∀ j, j < k → T j = T' j) → qd_qc T k = qd_qc T' k
  | 0, _ => rfl
  | k + 1, h => by
    have e := qd_qc_ext (T := T) (T' := T') (k := k) (fun j hj => h j (by omega))
    unfold qd_qc
    rw [e, h k (by omega)]
theorem qd_os_cons {T : Nat → Nat} {k : Nat} (h : 0 < qd_op T k) : ∃ r, qd_os T k = qd_D T k :: r ∧ qd_op T k = r.length + 1 := by
  unfold qd_op at h
  unfold qd_D qd_op
  cases e : qd_os T k with
  | nil => rw [e] at h; exact absurd h (by simp)
  | cons d r => exact ⟨r, rfl, rfl⟩
theorem qd_os_s {T : Nat → Nat} {k : Nat} {r : List Nat} (h : qd_os T k = qd_D T k :: r) : qd_os T (k + 1) = List.replicate (qd_ar (T k)) (qd_D T k + qd_q (T k)) ++ r := by
  rw [qd_os, h]
theorem qd_op_s {T : Nat → Nat} {k : Nat} (h : 0 < qd_op T k) : qd_op T (k + 1) + 1 = qd_op T k + qd_ar (T k) := by
  obtain ⟨r, e, l⟩ := qd_os_cons h
  rw [l]
  unfold qd_op
  rw [qd_os_s e, List.length_append, List.length_replicate]
  omega
theorem qd_op_le {T : Nat → Nat} : ∀ {k : Nat}, (∀ j, j < k → 0 < qd_op T j) → qd_op T k ≤ k + 1
  | 0, _ => Nat.le_refl 1
  | k + 1, h => by
    have a := qd_op_le (T := T) (k := k) (fun j hj => h j (by omega))
    have b := qd_op_s (h k (by omega))
    have c := qd_ar_le (T k)
    omega
theorem qd_dq {T : Nat → Nat} : ∀ {k : Nat} {d : Nat}, d ∈ qd_os T k → d ≤ qd_qc T k
  | 0, d, h => by
    unfold qd_os at h
    rw [List.mem_singleton] at h
    omega
  | k + 1, d, h => by
    unfold qd_os at h
    unfold qd_qc
    cases e : qd_os T k with
    | nil => rw [e] at h; exact absurd h (by simp)
    | cons c r =>
      rw [e] at h
      rcases List.mem_append.mp h with h | h
      · have a := List.eq_of_mem_replicate h
        have b := qd_dq (T := T) (k := k) (d := c) (by rw [e]; exact List.mem_cons_self)
        omega
      · have b := qd_dq (T := T) (k := k) (d := d) (by rw [e]; exact List.mem_cons_of_mem _ h)
        omega
theorem qd_qc_mono {T : Nat → Nat} {a b : Nat} (h : a ≤ b) : qd_qc T a ≤ qd_qc T b := by
  induction h with
  | refl => exact Nat.le_refl _
  | step _ ih => exact Nat.le_trans ih (Nat.le_add_right _ _)
theorem qd_qc_le {T : Nat → Nat} : ∀ k : Nat, qd_qc T k ≤ k
  | 0 => Nat.le_refl 0
  | k + 1 => by
    have a := qd_qc_le (T := T) k
    have b := qd_q_le (T k)
    unfold qd_qc
    omega
/-- a quantifier's own number is at most 3 -/
theorem qd_D_le {T : Nat → Nat} {s k : Nat} (hq : qd_qc T s ≤ 4) (hk : k < s) (h : 0 < qd_op T k) (ht : qd_q (T k) = 1) : qd_D T k ≤ 3 := by
  obtain ⟨r, e, _⟩ := qd_os_cons h
  have a := qd_dq (T := T) (k := k) (d := qd_D T k) (by rw [e]; exact List.mem_cons_self)
  have b := qd_qc_mono (T := T) (a := k + 1) (b := s) (by omega)
  have c : qd_qc T (k + 1) = qd_qc T k + qd_q (T k) := rfl
  omega
theorem qd_D_14 {T : Nat → Nat} {k : Nat} (h : 0 < qd_op T k) : qd_D T k ≤ k := by
  obtain ⟨r, e, _⟩ := qd_os_cons h
  have a := qd_dq (T := T) (k := k) (d := qd_D T k) (by rw [e]; exact List.mem_cons_self)
  have b := qd_qc_le (T := T) k
  omega
/-! a stack in an array -/
def qd_St (o : Nat → Int32) : List Nat → Prop
  | [] => True
  | d :: r => o r.length = nI d ∧ qd_St o r
theorem qd_St_u {o : Nat → Int32} {k : Nat} {x : Int32} : ∀ {l : List Nat}, l.length ≤ k → qd_St o l → qd_St (upd o k x) l
  | [], _, _ => trivial
  | d :: r, h, H => ⟨by rw [pk_un (by simp at h; omega)]; exact H.1, qd_St_u (by simp at h; omega) H.2⟩
theorem qd_St_p {o : Nat → Int32} {d : Nat} {l : List Nat} (H : qd_St o l) : qd_St (upd o l.length (nI d)) (d :: l) :=
  ⟨pk_us, qd_St_u (Nat.le_refl _) H⟩
theorem qd_rep (p d : Nat) (l : List Nat) : List.replicate p d ++ d :: l = List.replicate (p + 1) d ++ l := by
  rw [List.replicate_succ', List.append_assoc]
  rfl
/-! the values -/
abbrev qd_V : Type := Nat → Nat → Bool
def qd_ab (x c : Nat) : Nat := if x < 10 then c / 2 ^ (x - 6) % 2 else 2 + 2 * (c / 2 ^ ((x - 10) / 4) % 2) + c / 2 ^ ((x - 10) % 4) % 2
def qd_at (x : Nat) : qd_V := fun c i => decide (i / 2 ^ qd_ab x c % 2 = 1)
def qd_cl (d c : Nat) : Nat := if c / 2 ^ d % 2 = 1 then c - 2 ^ d else c
def qd_se (d c : Nat) : Nat := if c / 2 ^ d % 2 = 1 then c else c + 2 ^ d
def qd_no (f : qd_V) : qd_V := fun c i => !f c i
def qd_qu (x d : Nat) (f : qd_V) : qd_V := fun c i => if x = 4 then f (qd_cl d c) i && f (qd_se d c) i else f (qd_cl d c) i || f (qd_se d c) i
def qd_tw (x : Nat) (f g : qd_V) : qd_V := fun c i => if x = 1 then f c i && g c i else if x = 2 then f c i || g c i else !f c i || g c i
def qd_sp (x d : Nat) (l : List qd_V) : List qd_V :=
  if qd_ar x = 0 then qd_at x :: l else
  match l with
  | [] => []
  | f :: r => if qd_ar x = 1 then (if x = 0 then qd_no f else qd_qu x d f) :: r else
    match r with
    | [] => []
    | g :: r' => qd_tw x f g :: r'
def qd_ls (T : Nat → Nat) (s : Nat) : Nat → List qd_V
  | 0 => []
  | m + 1 => qd_sp (T (s - 1 - m)) (qd_D T (s - 1 - m)) (qd_ls T s m)
def qd_lr (T : Nat → Nat) (s p : Nat) : List qd_V := qd_ls T s (s - p)
def qd_tr (T : Nat → Nat) (s : Nat) (i : Nat) : Bool := ((qd_lr T s 0).headD (fun _ _ => false)) 0 i
theorem qd_lr_s (T : Nat → Nat) (s : Nat) : qd_lr T s s = [] := by
  unfold qd_lr
  rw [Nat.sub_self]
  rfl
theorem qd_lr_p {T : Nat → Nat} {s p : Nat} (h : p < s) : qd_lr T s p = qd_sp (T p) (qd_D T p) (qd_lr T s (p + 1)) := by
  obtain ⟨m, hm⟩ : ∃ m, s = p + 1 + m := ⟨s - (p + 1), by omega⟩
  subst hm
  unfold qd_lr
  rw [show p + 1 + m - p = m + 1 by omega, show p + 1 + m - (p + 1) = m by omega, qd_ls, show p + 1 + m - 1 - m = p by omega]
theorem qd_sp_len {x d : Nat} {l : List qd_V} (h : qd_ar x ≤ l.length) : (qd_sp x d l).length + qd_ar x = l.length + 1 := by
  have a := qd_ar_le x
  unfold qd_sp
  by_cases h0 : qd_ar x = 0
  · rw [if_pos h0, h0]; rfl
  · rw [if_neg h0]
    cases l with
    | nil => simp at h; omega
    | cons f r =>
      by_cases h1 : qd_ar x = 1
      · simp only [if_pos h1, List.length_cons]; omega
      · simp only [if_neg h1]
        cases r with
        | nil => simp at h; omega
        | cons g r => simp only [List.length_cons]; omega
theorem qd_lr_len {T : Nat → Nat} {s : Nat} (H : ∀ j, j < s → 0 < qd_op T j) (h0 : qd_op T s = 0) : ∀ m, m ≤ s → (qd_lr T s (s - m)).length = qd_op T (s - m)
  | 0, _ => by rw [Nat.sub_zero, qd_lr_s, h0]; rfl
  | m + 1, hm => by
    have ih := qd_lr_len H h0 m (by omega)
    have e : s - m = s - (m + 1) + 1 := by omega
    rw [e] at ih
    have a := H (s - (m + 1)) (by omega)
    have b := qd_op_s a
    have c := qd_sp_len (x := T (s - (m + 1))) (d := qd_D T (s - (m + 1))) (l := qd_lr T s (s - (m + 1) + 1)) (by omega)
    rw [qd_lr_p (show s - (m + 1) < s by omega)]
    omega
theorem qd_lr_l {T : Nat → Nat} {s p : Nat} (H : ∀ j, j < s → 0 < qd_op T j) (h0 : qd_op T s = 0) (hp : p ≤ s) : (qd_lr T s p).length = qd_op T p := by
  have a := qd_lr_len H h0 (s - p) (by omega)
  rw [show s - (s - p) = p by omega] at a
  exact a
theorem qd_lr_0 {T : Nat → Nat} {s : Nat} (H : ∀ j, j < s → 0 < qd_op T j) (h0 : qd_op T s = 0) : ∃ f, qd_lr T s 0 = [f] ∧ ∀ i, qd_tr T s i = f 0 i := by
  have a := qd_lr_l H h0 (Nat.zero_le s)
  unfold qd_tr
  have b : qd_op T 0 = 1 := rfl
  rw [b] at a
  cases e : qd_lr T s 0 with
  | nil => rw [e] at a; exact absurd a (by simp)
  | cons f r =>
    rw [e] at a
    cases r with
    | nil => exact ⟨f, rfl, fun _ => rfl⟩
    | cons g r => simp at a
end
section
/-! longs by their bits, and small tables -/
def qd_lb (x : Int64) (i : Nat) : Bool := x.toBitVec.getLsbD i
theorem qd_lb_ext {x y : Int64} (h : ∀ i, i < 64 → qd_lb x i = qd_lb y i) : x = y := Int64.toBitVec_inj.mp (BitVec.eq_of_getLsbD_eq (fun i hi => h i hi))
theorem qd_lb_or (x y : Int64) (i : Nat) : qd_lb (x ||| y) i = (qd_lb x i || qd_lb y i) := by unfold qd_lb; rw [Int64.toBitVec_or, BitVec.getLsbD_or]
theorem qd_lb_and (x y : Int64) (i : Nat) : qd_lb (x &&& y) i = (qd_lb x i && qd_lb y i) := by unfold qd_lb; rw [Int64.toBitVec_and, BitVec.getLsbD_and]
theorem qd_lb_xor (x y : Int64) (i : Nat) : qd_lb (x ^^^ y) i = (qd_lb x i ^^ qd_lb y i) := by unfold qd_lb; rw [Int64.toBitVec_xor, BitVec.getLsbD_xor]
theorem qd_lb_m1 : ∀ i, i < 64 → qd_lb (-1) i = true := by decide +kernel
theorem qd_lb_0 (i : Nat) : qd_lb 0 i = false := BitVec.getLsbD_zero
theorem qd_lb_not (x : Int64) {i : Nat} (h : i < 64) : qd_lb (x ^^^ (-1)) i = !qd_lb x i := by
  rw [qd_lb_xor, qd_lb_m1 i h, Bool.xor_true]
theorem qd_lb_big {x : Int64} {i : Nat} (h : 64 ≤ i) : qd_lb x i = false := BitVec.getLsbD_of_ge _ _ h
theorem qd_lb_one : ∀ k, k < 64 → ((1 : Int64) <<< ((nI k).toInt64 &&& 63)).toBitVec = BitVec.twoPow 64 k := by decide +kernel
theorem qd_lb_shl {k i : Nat} (hk : k < 64) (hi : i < 64) : qd_lb ((1 : Int64) <<< ((nI k).toInt64 &&& 63)) i = decide (i = k) := by
  unfold qd_lb
  rw [qd_lb_one k hk, BitVec.getLsbD_twoPow]
  by_cases e : k = i
  · subst e; simp [hk]
  · rw [decide_eq_false e, Bool.and_false, decide_eq_false (fun z : i = k => e z.symm)]
theorem qd_lb_ushr (x : Int64) {k : Nat} (hk : k < 64) (i : Nat) : qd_lb (x.toUInt64 >>> ((nI k).toInt64.toUInt64 &&& Int64.toUInt64 63)).toInt64 i = qd_lb x (k + i) := by
  rw [wb_cu k hk]
  have h1 : (UInt64.ofNat k).toNat = k := by
    show (BitVec.ofNat 64 k).toNat = k
    rw [BitVec.toNat_ofNat, Nat.mod_eq_of_lt (by omega)]
  have e : (x.toUInt64 >>> UInt64.ofNat k).toInt64.toBitVec = x.toBitVec >>> k := by
    apply BitVec.eq_of_toNat_eq
    show (x.toUInt64 >>> UInt64.ofNat k).toNat = _
    rw [UInt64.toNat_shiftRight, h1, Nat.mod_eq_of_lt hk, BitVec.toNat_ushiftRight]
    rfl
  unfold qd_lb
  rw [e, BitVec.getLsbD_ushiftRight]
theorem qd_lb_1 (i : Nat) : qd_lb 1 i = decide (i = 0) := by
  rcases Nat.lt_or_ge i 64 with h | h
  · exact (by decide +kernel : ∀ i, i < 64 → qd_lb 1 i = decide (i = 0)) i h
  · rw [qd_lb_big h, decide_eq_false (by omega)]
theorem qd_lb_c (x : Int64) {i : Nat} (hi : i < 64) : (((x.toUInt64 >>> ((nI i).toInt64.toUInt64 &&& Int64.toUInt64 63)).toInt64) &&& 1) = 1 ↔ qd_lb x i = true := by
  constructor
  · intro h
    have t := congrArg (fun y => qd_lb y 0) h
    simp only [qd_lb_and, qd_lb_ushr x hi, qd_lb_1] at t
    simpa using t
  · intro h
    apply qd_lb_ext
    intro j hj
    rw [qd_lb_and, qd_lb_ushr x hi, qd_lb_1]
    by_cases e : j = 0
    · subst e; rw [Nat.add_zero, h]; rfl
    · rw [decide_eq_false e, Bool.and_false]
theorem qd_bit1 (x : Int32) : x &&& 1 = 1 ↔ bt x 0 = true := by
  have o : ∀ j, j < 32 → bt 1 j = decide (j = 0) := by decide +kernel
  constructor
  · intro h
    have t := congrArg (fun y => bt y 0) h
    simp only [b_and, o 0 (by decide)] at t
    simpa using t
  · intro h
    apply b_ext
    intro j hj
    rw [b_and, o j hj]
    by_cases e : j = 0
    · subst e; rw [h]; rfl
    · rw [decide_eq_false e, Bool.and_false]
/-- one bit of x as a number -/
def qd_bI (b : Bool) : Int32 := if b then 1 else 0
theorem qd_b1 (x : Int32) {k : Nat} (hk : k < 32) : (x >>> (nI k &&& 31)) &&& 1 = qd_bI (bt x k) := by
  have o : ∀ j, j < 32 → bt 1 j = decide (j = 0) := by decide +kernel
  apply b_ext
  intro j hj
  rw [b_and, o j hj, b_sshr k hk x hj]
  by_cases e : j = 0
  · subst e
    rw [Nat.add_zero, if_pos hk, decide_eq_true rfl, Bool.and_true]
    cases bt x k <;> decide
  · rw [decide_eq_false e, Bool.and_false]
    cases bt x k
    · exact (b_0 j).symm
    · show _ = bt 1 j
      rw [o j hj, decide_eq_false e]
theorem qd_bt_nI {n k : Nat} (hk : k < 32) : bt (nI n) k = decide (n / 2 ^ k % 2 = 1) := by
  show (BitVec.ofNat 32 n).getLsbD k = _
  rw [BitVec.getLsbD_ofNat, decide_eq_true hk, Bool.true_and, Nat.testBit_eq_decide_div_mod_eq]
theorem qd_bI_nI (n : Nat) : qd_bI (decide (n % 2 = 1)) = nI (n % 2) := by
  rcases Nat.mod_two_eq_zero_or_one n with h | h <;> rw [h] <;> rfl
theorem qd_th {n k : Nat} (hk : k < 32) : (nI n >>> (nI k &&& 31)) &&& 1 = nI (n / 2 ^ k % 2) := by
  rw [qd_b1 _ hk, qd_bt_nI hk, qd_bI_nI]
theorem qd_bt_bI (b : Bool) : bt (qd_bI b) 0 = b := by cases b <;> decide
theorem qd_bt_bIs {b : Bool} {k : Nat} (h : 0 < k) (hk : k < 32) : bt (qd_bI b) k = false := by
  have o : ∀ j, j < 32 → bt 1 j = decide (j = 0) := by decide +kernel
  cases b
  · exact b_0 k
  · show bt 1 k = false
    rw [o k hk, decide_eq_false (by omega)]
theorem qd_bt_sh {b : Bool} {k i : Nat} (hk : k < 32) (hi : i < 32) : bt (qd_bI b <<< (nI k &&& 31)) i = (decide (i = k) && b) := by
  rw [b_shl k hk _ hi]
  rcases Nat.lt_trichotomy i k with h | h | h
  · rw [decide_eq_false (by omega), decide_eq_false (by omega), Bool.false_and, Bool.false_and]
  · subst h
    rw [Nat.sub_self, qd_bt_bI, decide_eq_true (Nat.le_refl _), decide_eq_true rfl]
  · rw [qd_bt_bIs (by omega) (by omega), Bool.and_false, decide_eq_false (by omega), Bool.false_and]
theorem qd_bI_and (a b : Bool) : qd_bI a &&& qd_bI b = qd_bI (a && b) := by cases a <;> cases b <;> decide
theorem qd_bI_or (a b : Bool) : qd_bI a ||| qd_bI b = qd_bI (a || b) := by cases a <;> cases b <;> decide
/-- a choice with a bit cleared, set -/
theorem qd_t_cl : ∀ d, d < 4 → ∀ c, c < 16 → nI c &&& (((1 : Int32) <<< (nI d &&& 31)) ^^^ (-1)) = nI (qd_cl d c) ∧ qd_cl d c < 16 := by decide +kernel
theorem qd_t_se : ∀ d, d < 4 → ∀ c, c < 16 → nI c ||| ((1 : Int32) <<< (nI d &&& 31)) = nI (qd_se d c) ∧ qd_se d c < 16 := by decide +kernel
theorem qd_t_a3 : ∀ d, d < 4 → nI d &&& 3 = nI d := by decide +kernel
theorem qd_t_a15 : ∀ d, d < 16 → nI d &&& 15 = nI d := by decide +kernel
theorem qd_t_ab : ∀ x, x < 26 → ∀ c, c < 16 → qd_ab x c < 6 := by decide +kernel
theorem qd_t_p : ∀ b, b < 6 → (1 : Int32) <<< (nI b &&& 31) = nI (2 ^ b) := by decide +kernel
/-- counting -/
def qd_cn (f : Nat → Bool) : Nat → Nat
  | 0 => 0
  | n + 1 => qd_cn f n + (if f n then 1 else 0)
theorem qd_cn_le (f : Nat → Bool) : ∀ n, qd_cn f n ≤ n
  | 0 => Nat.le_refl 0
  | n + 1 => by
    have a := qd_cn_le f n
    unfold qd_cn
    split <;> omega
theorem qd_cn_ext {f g : Nat → Bool} : ∀ {n : Nat}, (∀ i, i < n → f i = g i) → qd_cn f n = qd_cn g n
  | 0, _ => rfl
  | n + 1, h => by
    have a := qd_cn_ext (f := f) (g := g) (n := n) (fun i hi => h i (by omega))
    unfold qd_cn
    rw [a, h n (by omega)]
theorem qd_cn_all {f : Nat → Bool} : ∀ {n : Nat}, qd_cn f n = n ↔ ∀ i, i < n → f i = true
  | 0 => ⟨fun _ i hi => absurd hi (by omega), fun _ => rfl⟩
  | n + 1 => by
    have a := qd_cn_all (f := f) (n := n)
    have b := qd_cn_le f n
    unfold qd_cn
    constructor
    · intro h
      by_cases e : f n = true
      · rw [if_pos e] at h
        have c := a.mp (by omega)
        intro i hi
        rcases Nat.lt_or_ge i n with z | z
        · exact c i z
        · rw [show i = n by omega]; exact e
      · rw [if_neg e] at h; omega
    · intro h
      rw [a.mpr (fun i hi => h i (by omega)), if_pos (h n (by omega))]
end
section
/-! the component's small methods -/
/-- what both sides know of the tokens -/
def qd_G (T : Nat → Nat) (s : Nat) : Prop := s ≤ 13 ∧ (∀ k, T k < 26) ∧ (∀ k, k < s → 0 < qd_op T k) ∧ qd_qc T s ≤ 4
theorem qx_parts {post : Int32 → Prop} {x : Nat} (hx : x < 26) (h : post (nI (qd_ar x))) : wpX_parts post (nI x) := by
  refine pk_lt x 6 (fun h6 => ?_) (fun h6 => ?_)
  · refine pk_eq x 1 (fun e => ?_) (fun e1 => ?_)
    · subst e; exact h
    · refine pk_eq x 2 (fun e => ?_) (fun e2 => ?_)
      · subst e; exact h
      · refine pk_eq x 3 (fun e => ?_) (fun e3 => ?_)
        · subst e; exact h
        · have e : qd_ar x = 1 := by unfold qd_ar; rw [if_pos h6, if_neg (by omega)]
          rw [e] at h; exact h
  · have e : qd_ar x = 0 := by unfold qd_ar; rw [if_neg (by omega)]
    rw [e] at h; exact h
theorem qx_isq {post : Int32 → Prop} {x : Nat} (hx : x < 26) (h : post (nI (qd_q x))) : wpX_isQuantifier post (nI x) := by
  refine pk_eq x 4 (fun e => ?_) (fun e1 => ?_)
  · subst e; exact h
  · refine pk_eq x 5 (fun e => ?_) (fun e2 => ?_)
    · subst e; exact h
    · have e : qd_q x = 0 := by unfold qd_q; rw [if_neg (by omega)]
      rw [e] at h; exact h
def qd_c0 (n : Nat) : Int32 := if n = 0 then 1 else 0
theorem qx_complete_l {post : Int32 → Prop} {T : Nat → Nat} {s : Nat} (G : qd_G T s) {K : Int32} {L : Int64} {d o e : Nat → Int32} {m : Nat → Int64} (h : post (qd_c0 (qd_op T s))) : ∀ p k, k + p = s → wX_complete_4 post (nI s) K L (qd_t T) d o e m (p + 1) (nI (qd_op T k)) (nI k) := by
  obtain ⟨hs, h26, H, _⟩ := G
  intro p
  induction p with
  | zero =>
    intro k hk
    have e : k = s := by omega
    subst e
    have b := qd_op_le H
    refine br_t (nI_le (Nat.le_refl _) (by omega)) (pk_eq (qd_op T k) 0 (fun z => ?_) (fun z => ?_))
    · rw [z] at h; exact h
    · rw [qd_c0, if_neg z] at h; exact h
  | succ p ih =>
    intro k hk
    have b := qd_op_s (H k (by omega))
    have c := H k (by omega)
    have g := qd_op_le (T := T) (k := k) (fun j hj => H j (by omega))
    refine br_f (nI_ge (by omega) (by omega)) ⟨vp_in_nI (by omega) (by omega), ?_⟩
    rw [nI_clamp (by omega)]
    refine qx_parts (h26 k) ?_
    refine nm_r (e' := nI (qd_op T (k + 1))) ?_ (nm_r (nI_1 k) (ih (k + 1) (by omega)))
    rw [show (1 : Int32) = nI 1 from rfl, pk_sub (by omega), nI_add]
    exact congrArg nI (by omega)
theorem qx_complete {post : Int32 → Prop} {T : Nat → Nat} {s : Nat} (G : qd_G T s) {K : Int32} {L : Int64} {d o e : Nat → Int32} {m : Nat → Int64} (h : post (qd_c0 (qd_op T s))) : wpX_complete post (nI s, K, L, qd_t T, d, o, e, m) :=
  ⟨s + 1, qx_complete_l G h s 0 (by omega)⟩
theorem qx_quant_l {post : Int32 → Prop} {T : Nat → Nat} {s : Nat} (G : qd_G T s) {K : Int32} {L : Int64} {d o e : Nat → Int32} {m : Nat → Int64} (h : post (nI (qd_qc T s))) : ∀ p k, k + p = s → wX_quantifiers_4 post (nI s) K L (qd_t T) d o e m (p + 1) (nI (qd_qc T k)) (nI k) := by
  obtain ⟨hs, h26, H, _⟩ := G
  intro p
  induction p with
  | zero =>
    intro k hk
    have e : k = s := by omega
    subst e
    exact br_t (nI_le (Nat.le_refl _) (by omega)) h
  | succ p ih =>
    intro k hk
    refine br_f (nI_ge (by omega) (by omega)) ⟨vp_in_nI (by omega) (by omega), ?_⟩
    rw [nI_clamp (by omega)]
    refine qx_isq (h26 k) ?_
    have r := ih (k + 1) (by omega)
    have q := qd_q_le (T k)
    refine pk_eq (qd_q (T k)) 0 (fun z => nm_r (nI_1 k) ?_) (fun z => nm_r (e' := nI (qd_qc T (k + 1))) ?_ (nm_r (nI_1 k) r))
    · rw [qd_qc, z] at r; exact r
    · rw [nI_1, qd_qc]; exact congrArg nI (by omega)
theorem qx_quant {post : Int32 → Prop} {T : Nat → Nat} {s : Nat} (G : qd_G T s) {K : Int32} {L : Int64} {d o e : Nat → Int32} {m : Nat → Int64} (h : post (nI (qd_qc T s))) : wpX_quantifiers post (nI s, K, L, qd_t T, d, o, e, m) :=
  ⟨s + 1, qx_quant_l G h s 0 (by omega)⟩
/-! the depths -/
theorem qx_push {post : SX → Prop} {J : Int32 → Int32 → (Nat → Int32) → (Nat → Int32) → (Nat → Int32) → (Nat → Int32) → (Nat → Int64) → Prop} {x2 S K : Int32} {L : Int64} {t dp e : Nat → Int32} {m : Nat → Int64} {dd : Nat} : ∀ (p : Nat) (l : List Nat) (o : Nat → Int32), l.length + p ≤ 14 → qd_St o l → (∀ o', qd_St o' (List.replicate p dd ++ l) → J (nI (l.length + p)) (x2 + 1) t dp o' e m) → wX_findDepths_74 post J x2 (nI dd) S K L (p + 1) (nI l.length) (nI p) t dp o e m := by
  intro p
  induction p with
  | zero =>
    intro l o hl ho h
    exact br_t (nI_le (Nat.le_refl 0) (by decide)) (nm_e (h o ho))
  | succ p ih =>
    intro l o hl ho h
    refine br_f (nI_nle (by omega) (by omega)) ⟨vp_in_nI (by omega) (by omega), ?_⟩
    rw [nI_clamp (by omega)]
    refine nm_e (nm_r (nI_1 _) (nm_r (pk_m1 p) ?_))
    refine ih (dd :: l) _ (by rw [List.length_cons]; omega) (qd_St_p ho) (fun o' ho' => ?_)
    rw [qd_rep] at ho'
    have a := h o' ho'
    rw [List.length_cons, show l.length + 1 + p = l.length + (p + 1) by omega]
    exact a
theorem qx_depth_l {post : SX → Prop} {T : Nat → Nat} {s : Nat} (G : qd_G T s) {K : Int32} {L : Int64} {e : Nat → Int32} {m : Nat → Int64} (h : ∀ d' o', (∀ j, j < s → d' j = nI (qd_D T j)) → (0 < qd_op T s → d' s = nI (qd_D T s)) → post (nI s, K, L, qd_t T, d', o', e, m)) : ∀ p k, k + p = s → ∀ d o, qd_St o (qd_os T k) → (∀ j, j < k → d j = nI (qd_D T j)) → wX_findDepths_11 post (nI s) K L (p + 1) (nI (qd_op T k)) (nI k) (qd_t T) d o e m := by
  obtain ⟨hs, h26, H, _⟩ := G
  intro p
  induction p with
  | zero =>
    intro k hk d o ho hd
    have e : k = s := by omega
    subst e
    have b := qd_op_le H
    refine br_t (nI_le (Nat.le_refl _) (by omega)) (pk_le (qd_op T k) 0 (fun z => ?_) (fun z => ?_))
    · exact h d o hd (fun z' => absurd z' (by omega))
    · obtain ⟨r, er, lr⟩ := qd_os_cons z
      rw [er] at ho
      rw [lr, nI_pred]
      refine ⟨vp_in_nI (by omega) (by omega), vp_in_nI (by omega) (by omega), nm_e ?_⟩
      rw [nI_clamp (by omega), nI_clamp (by omega), ho.1]
      exact h _ _ (fun j hj => by rw [pk_un (by omega)]; exact hd j hj) (fun _ => pk_us)
  | succ p ih =>
    intro k hk d o ho hd
    have c := H k (by omega)
    have b := qd_op_s c
    have g := qd_op_le (T := T) (k := k) (fun j hj => H j (by omega))
    have g' := qd_op_le (T := T) (k := k + 1) (fun j hj => H j (by omega))
    obtain ⟨r, er, lr⟩ := qd_os_cons c
    rw [er] at ho
    refine br_f (nI_ge (by omega) (by omega)) (br_f (nI_nle (by omega) (by omega)) ?_)
    rw [lr, nI_pred, nI_clamp (by omega : r.length < 2 ^ 31), nI_clamp (by omega : k < 2 ^ 31), ho.1]
    refine ⟨vp_in_nI (by omega) (by omega), nm_e ⟨vp_in_nI (by omega) (by omega), nm_e ⟨vp_in_nI (by omega) (by omega), ?_⟩⟩⟩
    refine qx_isq (h26 k) ?_
    have fin : wX_findDepths_58 post (wX_findDepths_11 post (nI s) K L (p + 1)) (nI (r.length + 1)) (nI k) (nI (qd_D T k + qd_q (T k))) (nI s) K L (qd_t T) (upd d k (nI (qd_D T k))) o e m := by
      refine nm_r (pk_m1 _) ⟨vp_in_nI (by omega) (by omega), ?_⟩
      rw [nI_clamp (by omega)]
      refine qx_parts (h26 k) ⟨_, qx_push _ r o (by omega) ho.2 (fun o' ho' => ?_)⟩
      rw [← qd_os_s er] at ho'
      rw [nI_1, show r.length + qd_ar (T k) = qd_op T (k + 1) by omega]
      refine ih (k + 1) (by omega) _ o' ho' (fun j hj => ?_)
      by_cases z : j = k
      · subst z; exact pk_us
      · rw [pk_un z]; exact hd j (by omega)
    have q := qd_q_le (T k)
    refine pk_eq (qd_q (T k)) 0 (fun z => ?_) (fun z => ?_)
    · rw [z] at fin; exact fin
    · rw [nI_1]
      rw [show qd_q (T k) = 1 by omega] at fin
      exact fin
theorem qx_depths {post : SX → Prop} {T : Nat → Nat} {s : Nat} (G : qd_G T s) {K : Int32} {L : Int64} {d o e : Nat → Int32} {m : Nat → Int64} (h : ∀ d' o', (∀ j, j < s → d' j = nI (qd_D T j)) → (0 < qd_op T s → d' s = nI (qd_D T s)) → post (nI s, K, L, qd_t T, d', o', e, m)) : wpX_findDepths post (nI s, K, L, qd_t T, d, o, e, m) :=
  nm_e ⟨s + 1, qx_depth_l G h s 0 (by omega) d _ ⟨pk_us, trivial⟩ (fun j hj => absurd hj (by omega))⟩
/-! sets of interpretations -/
theorem qx_with_l {post : Int64 → Prop} {b : Nat} (hb : b < 6) (h : ∀ r, (∀ i, i < 64 → qd_lb r i = decide (i / 2 ^ b % 2 = 1)) → post r) : ∀ p k, k + p = 64 → ∀ x, (∀ i, i < k → qd_lb x i = decide (i / 2 ^ b % 2 = 1)) → (∀ i, k ≤ i → qd_lb x i = false) → wX_interpretationsWithBit_4 post (nI b) (p + 1) x (nI k) := by
  intro p
  induction p with
  | zero =>
    intro k hk x hx _
    have e : k = 64 := by omega
    subst e
    exact br_t (nI_le (a := 64) (Nat.le_refl _) (by omega)) (h x hx)
  | succ p ih =>
    intro k hk x hx hz
    refine br_f (nI_ge (b := 64) (by omega) (by omega)) ?_
    rw [qd_th (by omega)]
    refine pk_eq (k / 2 ^ b % 2) 1 (fun z => nm_e (nm_r (nI_1 k) (ih (k + 1) (by omega) _ ?_ ?_))) (fun z => nm_r (nI_1 k) (ih (k + 1) (by omega) x ?_ ?_))
    · intro i hi
      rw [qd_lb_or, qd_lb_shl (by omega) (by omega)]
      by_cases w : i = k
      · subst w; rw [decide_eq_true rfl, Bool.or_true, decide_eq_true z]
      · rw [decide_eq_false w, Bool.or_false]; exact hx i (by omega)
    · intro i hi
      rw [qd_lb_or, hz i (by omega)]
      rcases Nat.lt_or_ge i 64 with w | w
      · rw [qd_lb_shl (by omega) w, decide_eq_false (by omega)]; rfl
      · rw [qd_lb_big w]; rfl
    · intro i hi
      by_cases w : i = k
      · subst w; rw [hz i (Nat.le_refl _), decide_eq_false z]
      · exact hx i (by omega)
    · intro i hi
      exact hz i (by omega)
theorem qx_with {post : Int64 → Prop} {b : Nat} (hb : b < 6) (h : ∀ r, (∀ i, i < 64 → qd_lb r i = decide (i / 2 ^ b % 2 = 1)) → post r) : wpX_interpretationsWithBit post (nI b) :=
  ⟨65, qx_with_l hb h 64 0 (by omega) 0 (fun i hi => absurd hi (by omega)) (fun i _ => qd_lb_0 i)⟩
theorem qx_contains {post : Int32 → Prop} {x : Int64} {i : Nat} (hi : i < 64) (h : post (qd_bI (qd_lb x i))) : wpX_contains post x (nI i) := by
  unfold wpX_contains
  rw [qd_lb_c x hi]
  refine br_c (fun z => ?_) (fun z => ?_)
  · rw [z] at h; exact h
  · rw [ts_nt z] at h; exact h
theorem qx_count_l {post : Int32 → Prop} {x : Int64} (h : post (nI (qd_cn (qd_lb x) 64))) : ∀ p k, k + p = 64 → wX_count_4 post x (p + 1) (nI (qd_cn (qd_lb x) k)) (nI k) := by
  intro p
  induction p with
  | zero =>
    intro k hk
    have e : k = 64 := by omega
    subst e
    exact br_t (nI_le (a := 64) (Nat.le_refl _) (by omega)) h
  | succ p ih =>
    intro k hk
    refine br_f (nI_ge (b := 64) (by omega) (by omega)) ?_
    refine qx_contains (by omega) ?_
    have r := ih (k + 1) (by omega)
    unfold qd_cn at r
    cases e : qd_lb x k with
    | true =>
      rw [e] at r
      exact br_f (by decide) (nm_r (nI_1 _) (nm_r (nI_1 _) r))
    | false =>
      rw [e] at r
      exact br_t (by decide) (nm_r (nI_1 _) r)
theorem qx_count {post : Int32 → Prop} {x : Int64} (h : post (nI (qd_cn (qd_lb x) 64))) : wpX_count post x := ⟨65, qx_count_l h 64 0 (by omega)⟩
/-! the variables of an atom -/
def qd_vn (x : Nat) : Nat := if x < 6 then 0 else if x < 10 then x - 5 else if (x - 10) / 4 ≤ (x - 10) % 4 then (x - 10) % 4 + 1 else (x - 10) / 4 + 1
theorem qd_r1 {x : Nat} (h : 10 ≤ x) (hx : x < 26) : (nI x - 10) / 4 = nI ((x - 10) / 4) := by
  rw [show (10 : Int32) = nI 10 from rfl, show (4 : Int32) = nI 4 from rfl, pk_sub h, pk_div (by omega) (by omega) (by omega)]
theorem qd_r2 {x : Nat} (h : 10 ≤ x) (hx : x < 26) : (nI x - 10) - (nI x - 10) / 4 * 4 = nI ((x - 10) % 4) := by
  rw [show (10 : Int32) = nI 10 from rfl, show (4 : Int32) = nI 4 from rfl, pk_sub h, pk_rem (by omega) (by omega) (by omega)]
theorem qd_r0 {x : Nat} (h : 6 ≤ x) : nI x - 6 = nI (x - 6) := by
  rw [show (6 : Int32) = nI 6 from rfl, pk_sub h]
theorem qx_vn {post : Int32 → Prop} {x : Nat} (hx : x < 26) (h : post (nI (qd_vn x))) : wpX_variablesNeeded post (nI x) := by
  refine pk_le 6 x (fun z => pk_le 10 x (fun w => ?_) (fun w => ?_)) (fun z => ?_)
  · refine ⟨by decide, ⟨by decide, ?_⟩⟩
    rw [qd_r2 w hx, qd_r1 w hx]
    unfold qd_vn at h
    rw [if_neg (by omega), if_neg (by omega)] at h
    refine pk_le ((x - 10) / 4) ((x - 10) % 4) (fun y => ?_) (fun y => ?_)
    · rw [if_pos y] at h; rw [nI_1]; exact h
    · rw [if_neg (by omega)] at h; rw [nI_1]; exact h
  · unfold qd_vn at h
    rw [if_neg (by omega), if_pos w] at h
    rw [qd_r0 z, nI_1, show x - 6 + 1 = x - 5 by omega]
    exact h
  · unfold qd_vn at h
    rw [if_pos z] at h
    exact h
end
section
/-! the component's evaluation -/
def qd_Mi (k c : Nat) (m m' : Nat → Int64) (f : qd_V) : Prop := (∀ j, (j < k * 16 ∨ k * 16 + c ≤ j) → m' j = m j) ∧ ∀ c', c' < c → ∀ i, i < 64 → qd_lb (m' (k * 16 + c')) i = f c' i
theorem qd_Mi_0 {k : Nat} {m : Nat → Int64} {f : qd_V} : qd_Mi k 0 m m f := ⟨fun _ _ => rfl, fun _ h => absurd h (by omega)⟩
theorem qd_Mi_s {k c : Nat} {m m' : Nat → Int64} {f : qd_V} {v : Int64} (h : qd_Mi k c m m' f) (hv : ∀ i, i < 64 → qd_lb v i = f c i) : qd_Mi k (c + 1) m (vp_updL m' (k * 16 + c) v) f := by
  refine ⟨fun j hj => ?_, fun c' hc i hi => ?_⟩
  · rw [pk_uLn (by omega)]; exact h.1 j (by omega)
  · by_cases e : c' = c
    · subst e; rw [pk_uLs]; exact hv i hi
    · rw [pk_uLn (by omega)]; exact h.2 c' (by omega) i hi
theorem qd_ix (k c : Nat) : nI k * 16 + nI c = nI (k * 16 + c) := by
  rw [show (16 : Int32) = nI 16 from rfl, pk_mul, nI_add]
theorem qd_ix1 (k : Nat) : (nI k + 1) * 16 = nI ((k + 1) * 16) := by
  rw [nI_1, show (16 : Int32) = nI 16 from rfl, pk_mul]
theorem qd_16 {c : Nat} (h : c < 16) : ¬ (16 : Int32) ≤ nI c := nI_ge (b := 16) h (by decide)
theorem qd_16' : (16 : Int32) ≤ nI 16 := by decide
theorem qx_a65 {post : SX → Prop} {J : Int32 → (Nat → Int32) → (Nat → Int32) → (Nat → Int32) → (Nat → Int32) → (Nat → Int64) → Prop} {x2 S K : Int32} {L : Int64} {t d o e : Nat → Int32} {m : Nat → Int64} {k c b : Nat} (hk : k < 13) (hc : c < 16) (hb : b < 6) (h : ∀ v, (∀ i, i < 64 → qd_lb v i = decide (i / 2 ^ b % 2 = 1)) → J (nI (c + 1)) t d o e (vp_updL m (k * 16 + c) v)) : wX_findAtom_65 post J (nI k) x2 (nI c) (nI b) S K L t d o e m := by
  refine qx_with hb (fun r hr => ?_)
  rw [qd_ix]
  refine ⟨vp_in_nI (by omega) (by omega), ?_⟩
  rw [nI_clamp (by omega)]
  exact nm_e (nm_r (nI_1 c) (h r hr))
theorem qx_atom_l {post : SX → Prop} {S K : Int32} {L : Int64} {t d o e : Nat → Int32} {m : Nat → Int64} {k x : Nat} (hk : k < 13) (h6 : 6 ≤ x) (hx : x < 26) (h : ∀ m', qd_Mi k 16 m m' (qd_at x) → post (S, K, L, t, d, o, e, m')) : ∀ p c, c + p = 16 → ∀ m', qd_Mi k c m m' (qd_at x) → wX_findAtom_9 post (nI k) (nI x) S K L (p + 1) (nI c) t d o e m' := by
  intro p
  induction p with
  | zero =>
    intro c hc m' hm
    have e : c = 16 := by omega
    subst e
    exact br_t qd_16' (h m' hm)
  | succ p ih =>
    intro c hc m' hm
    have hb := qd_t_ab x hx c (by omega)
    have fin : wX_findAtom_65 post (wX_findAtom_9 post (nI k) (nI x) S K L (p + 1)) (nI k) (nI x) (nI c) (nI (qd_ab x c)) S K L t d o e m' :=
      qx_a65 hk (by omega) hb (fun v hv => ih (c + 1) (by omega) _ (qd_Mi_s hm hv))
    refine br_f (qd_16 (by omega)) (pk_le 10 x (fun w => ?_) (fun w => ?_))
    · refine ⟨by decide, ⟨by decide, ?_⟩⟩
      rw [qd_r2 w hx, qd_r1 w hx]
      simp only [wpX_thing]
      rw [qd_th (by omega), qd_th (by omega)]
      refine nm_r (e' := nI (qd_ab x c)) ?_ fin
      unfold qd_ab
      rw [if_neg (by omega), show (2 : Int32) = nI 2 from rfl, pk_mul, nI_add, nI_add]
    · rw [qd_r0 h6]
      simp only [wpX_thing]
      rw [qd_th (by omega)]
      unfold qd_ab at fin
      rw [if_pos w] at fin
      exact fin
theorem qx_atom {post : SX → Prop} {S K : Int32} {L : Int64} {T : Nat → Nat} {d o e : Nat → Int32} {m : Nat → Int64} {k : Nat} (hk : k < 13) (h6 : 6 ≤ T k) (hx : T k < 26) (h : ∀ m', qd_Mi k 16 m m' (qd_at (T k)) → post (S, K, L, qd_t T, d, o, e, m')) : wpX_findAtom post (S, K, L, qd_t T, d, o, e, m) (nI k) :=
  ⟨vp_in_nI hk (by omega), nm_r (e' := nI (T k)) (by rw [nI_clamp (by omega)]; rfl) ⟨17, qx_atom_l hk h6 hx h 16 0 (by omega) m qd_Mi_0⟩⟩
theorem qx_not_l {post : SX → Prop} {S K : Int32} {L : Int64} {t d o e : Nat → Int32} {m : Nat → Int64} {k : Nat} {f : qd_V} (hk : k < 13) (hf : ∀ c, c < 16 → ∀ i, i < 64 → qd_lb (m ((k + 1) * 16 + c)) i = f c i) (h : ∀ m', qd_Mi k 16 m m' (qd_no f) → post (S, K, L, t, d, o, e, m')) : ∀ p c, c + p = 16 → ∀ m', qd_Mi k c m m' (qd_no f) → wX_findNot_9 post (nI k) (nI ((k + 1) * 16)) S K L (p + 1) (nI c) t d o e m' := by
  intro p
  induction p with
  | zero =>
    intro c hc m' hm
    have e : c = 16 := by omega
    subst e
    exact br_t qd_16' (h m' hm)
  | succ p ih =>
    intro c hc m' hm
    refine br_f (qd_16 (by omega)) ?_
    rw [qd_ix, nI_add, nI_clamp (by omega), nI_clamp (by omega)]
    refine ⟨vp_in_nI (by omega) (by omega), vp_in_nI (by omega) (by omega), nm_e (nm_r (nI_1 c) (ih (c + 1) (by omega) _ (qd_Mi_s hm (fun i hi => ?_))))⟩
    rw [qd_lb_not _ hi, hm.1 _ (by omega), hf c (by omega) i hi]
    rfl
theorem qx_qu_l {post : SX → Prop} {S K : Int32} {L : Int64} {T : Nat → Nat} {d o e : Nat → Int32} {m : Nat → Int64} {k D : Nat} {f : qd_V} (hk : k < 13) (h26 : T k < 26) (hD : D < 4) (hf : ∀ c, c < 16 → ∀ i, i < 64 → qd_lb (m ((k + 1) * 16 + c)) i = f c i) (h : ∀ m', qd_Mi k 16 m m' (qd_qu (T k) D f) → post (S, K, L, qd_t T, d, o, e, m')) : ∀ p c, c + p = 16 → ∀ m', qd_Mi k c m m' (qd_qu (T k) D f) → wX_findQuantified_19 post (nI k) (nI ((k + 1) * 16)) ((1 : Int32) <<< (nI D &&& 31)) S K L (p + 1) (nI c) (qd_t T) d o e m' := by
  intro p
  induction p with
  | zero =>
    intro c hc m' hm
    have e : c = 16 := by omega
    subst e
    exact br_t qd_16' (h m' hm)
  | succ p ih =>
    intro c hc m' hm
    obtain ⟨e1, l1⟩ := qd_t_cl D hD c (by omega)
    obtain ⟨e2, l2⟩ := qd_t_se D hD c (by omega)
    refine br_f (qd_16 (by omega)) ?_
    rw [e1, e2, qd_ix, nI_add, nI_add, nI_clamp (by omega), nI_clamp (by omega), nI_clamp (by omega), nI_clamp (by omega)]
    refine ⟨vp_in_nI (by omega) (by omega), nm_e ⟨vp_in_nI (by omega) (by omega), nm_e ⟨vp_in_nI (by omega) (by omega), pk_eq (T k) 4 (fun z => ?_) (fun z => ?_)⟩⟩⟩
    · refine ⟨vp_in_nI (by omega) (by omega), nm_e (nm_r (nI_1 c) (ih (c + 1) (by omega) _ (qd_Mi_s hm (fun i hi => ?_))))⟩
      rw [qd_lb_and, hm.1 _ (by omega), hm.1 _ (by omega), hf _ l1 i hi, hf _ l2 i hi]
      unfold qd_qu
      rw [if_pos z]
    · refine ⟨vp_in_nI (by omega) (by omega), nm_e (nm_r (nI_1 c) (ih (c + 1) (by omega) _ (qd_Mi_s hm (fun i hi => ?_))))⟩
      rw [qd_lb_or, hm.1 _ (by omega), hm.1 _ (by omega), hf _ l1 i hi, hf _ l2 i hi]
      unfold qd_qu
      rw [if_neg z]
theorem qx_one {post : SX → Prop} {S K : Int32} {L : Int64} {T : Nat → Nat} {d o e : Nat → Int32} {m : Nat → Int64} {k D : Nat} {f : qd_V} (hk : k < 13) (h26 : T k < 26) (hD : T k ≠ 0 → D < 4) (hd : d k = nI D) (hf : ∀ c, c < 16 → ∀ i, i < 64 → qd_lb (m ((k + 1) * 16 + c)) i = f c i) (h : ∀ m', qd_Mi k 16 m m' (if T k = 0 then qd_no f else qd_qu (T k) D f) → post (S, K, L, qd_t T, d, o, e, m')) : wpX_findOfOne post (S, K, L, qd_t T, d, o, e, m) (nI k) := by
  refine ⟨vp_in_nI hk (by omega), ?_⟩
  rw [nI_clamp (by omega)]
  refine pk_eq (T k) 0 (fun z => ?_) (fun z => ?_)
  · rw [if_pos z] at h
    exact nm_r (qd_ix1 k) ⟨17, qx_not_l hk hf h 16 0 (by omega) m qd_Mi_0⟩
  · rw [if_neg z] at h
    refine nm_r (qd_ix1 k) ⟨vp_in_nI (by omega) (by omega), ?_⟩
    rw [nI_clamp (by omega), hd]
    exact nm_e ⟨17, qx_qu_l hk h26 (hD z) hf h 16 0 (by omega) m qd_Mi_0⟩
theorem qx_f87 {post : SX → Prop} {J : Int32 → (Nat → Int32) → (Nat → Int32) → (Nat → Int32) → (Nat → Int32) → (Nat → Int64) → Prop} {x2 S K : Int32} {L : Int64} {t d o e : Nat → Int32} {m : Nat → Int64} {k c : Nat} {v : Int64} (hk : k < 13) (hc : c < 16) (h : J (nI (c + 1)) t d o e (vp_updL m (k * 16 + c) v)) : wX_findOfTwo_87 post J (nI k) x2 (nI c) v S K L t d o e m := by
  unfold wX_findOfTwo_87
  rw [qd_ix, nI_clamp (by omega)]
  exact ⟨vp_in_nI (by omega) (by omega), nm_e (nm_r (nI_1 c) h)⟩
theorem qx_two_l {post : SX → Prop} {S K : Int32} {L : Int64} {T : Nat → Nat} {d o e : Nat → Int32} {m : Nat → Int64} {k q : Nat} {f g : qd_V} (hk : k < 13) (hkq : k < q) (hq : q < 13) (h26 : T k < 26) (hf : ∀ c, c < 16 → ∀ i, i < 64 → qd_lb (m ((k + 1) * 16 + c)) i = f c i) (hg : ∀ c, c < 16 → ∀ i, i < 64 → qd_lb (m (q * 16 + c)) i = g c i) (h : ∀ m', qd_Mi k 16 m m' (qd_tw (T k) f g) → post (S, K, L, qd_t T, d, o, e, m')) : ∀ p c, c + p = 16 → ∀ m', qd_Mi k c m m' (qd_tw (T k) f g) → wX_findOfTwo_2 post (nI k) (nI q) S K L (p + 1) (nI c) (qd_t T) d o e m' := by
  intro p
  induction p with
  | zero =>
    intro c hc m' hm
    have e : c = 16 := by omega
    subst e
    exact br_t qd_16' (h m' hm)
  | succ p ih =>
    intro c hc m' hm
    refine br_f (qd_16 (by omega)) ?_
    rw [qd_ix1, qd_ix, nI_add, nI_clamp (by omega), nI_clamp (by omega), nI_clamp (by omega)]
    refine ⟨vp_in_nI (by omega) (by omega), nm_e ⟨vp_in_nI (by omega) (by omega), nm_e ⟨vp_in_nI (by omega) (by omega), pk_eq (T k) 1 (fun z => ?_) (fun z => ⟨vp_in_nI (by omega) (by omega), pk_eq (T k) 2 (fun y => ?_) (fun y => ?_)⟩)⟩⟩⟩
    · refine nm_e (qx_f87 hk (by omega) (ih (c + 1) (by omega) _ (qd_Mi_s hm (fun i hi => ?_))))
      rw [qd_lb_and, hm.1 _ (by omega), hm.1 _ (by omega), hf c (by omega) i hi, hg c (by omega) i hi]
      unfold qd_tw
      rw [if_pos z]
    · refine nm_e (qx_f87 hk (by omega) (ih (c + 1) (by omega) _ (qd_Mi_s hm (fun i hi => ?_))))
      rw [qd_lb_or, hm.1 _ (by omega), hm.1 _ (by omega), hf c (by omega) i hi, hg c (by omega) i hi]
      unfold qd_tw
      rw [if_neg z, if_pos y]
    · refine nm_e (qx_f87 hk (by omega) (ih (c + 1) (by omega) _ (qd_Mi_s hm (fun i hi => ?_))))
      rw [qd_lb_or, qd_lb_not _ hi, hm.1 _ (by omega), hm.1 _ (by omega), hf c (by omega) i hi, hg c (by omega) i hi]
      unfold qd_tw
      rw [if_neg z, if_neg y]
/-! the chain of subformulas -/
def qd_Ch (s : Nat) (e : Nat → Int32) (m : Nat → Int64) : Nat → List qd_V → Prop
  | p, [] => p = s
  | p, f :: r => p < s ∧ (∃ q, e p = nI q ∧ p < q ∧ q ≤ s ∧ qd_Ch s e m q r) ∧ ∀ c, c < 16 → ∀ i, i < 64 → qd_lb (m (p * 16 + c)) i = f c i
theorem qd_Ch_f {s : Nat} {e e' : Nat → Int32} {m m' : Nat → Int64} : ∀ {l : List qd_V} {p : Nat}, (∀ j, p ≤ j → e' j = e j) → (∀ j, p * 16 ≤ j → m' j = m j) → qd_Ch s e m p l → qd_Ch s e' m' p l
  | [], _, _, _, h => h
  | f :: r, p, he, hm, ⟨h1, ⟨q, h2, h3, h4, h5⟩, h6⟩ =>
    ⟨h1, ⟨q, by rw [he p (Nat.le_refl _)]; exact h2, h3, h4, qd_Ch_f (fun j hj => he j (by omega)) (fun j hj => hm j (by omega)) h5⟩, fun c hc i hi => by rw [hm _ (by omega)]; exact h6 c hc i hi⟩
theorem qd_Ch_n {s p q : Nat} {e : Nat → Int32} {m m' : Nat → Int64} {x : Int32} {f : qd_V} {l : List qd_V} (hp : p < s) (hx : x = nI q) (hpq : p < q) (hq : q ≤ s) (hm : qd_Mi p 16 m m' f) (h : qd_Ch s e m q l) : qd_Ch s (upd e p x) m' p (f :: l) :=
  ⟨hp, ⟨q, by rw [pk_us]; exact hx, hpq, hq, qd_Ch_f (fun j hj => pk_un (by omega)) (fun j hj => hm.1 j (by omega)) h⟩, hm.2⟩
theorem qd_sp0 {x d : Nat} {l : List qd_V} (h : qd_ar x = 0) : qd_sp x d l = qd_at x :: l := by
  unfold qd_sp
  rw [if_pos h]
theorem qd_sp1 {x d : Nat} {l : List qd_V} {f : qd_V} (h : qd_ar x = 1) : qd_sp x d (f :: l) = (if x = 0 then qd_no f else qd_qu x d f) :: l := by
  unfold qd_sp
  rw [if_neg (by omega)]
  simp only [if_pos h]
theorem qd_sp2 {x d : Nat} {l : List qd_V} {f g : qd_V} (h : qd_ar x = 2) : qd_sp x d (f :: g :: l) = qd_tw x f g :: l := by
  unfold qd_sp
  rw [if_neg (by omega)]
  simp only [if_neg (show ¬ qd_ar x = 1 by omega)]
theorem qd_ar0 {x : Nat} (h : qd_ar x = 0) : 6 ≤ x := by
  unfold qd_ar at h
  by_cases z : x < 6
  · rw [if_pos z] at h
    split at h <;> omega
  · omega
theorem qd_ar1 {x : Nat} (h : qd_ar x = 1) (h0 : x ≠ 0) : qd_q x = 1 := by
  unfold qd_ar at h
  unfold qd_q
  by_cases z : x < 6
  · rw [if_pos z] at h
    by_cases y : x = 1 ∨ x = 2 ∨ x = 3
    · rw [if_pos y] at h; omega
    · rw [if_pos (by omega)]
  · rw [if_neg z] at h; omega
theorem qx_models_l {post : Int64 → SX → Prop} {T : Nat → Nat} {s : Nat} (G : qd_G T s) (h0 : qd_op T s = 0) {K : Int32} {L : Int64} {d o : Nat → Int32} (hd : ∀ j, j < s → d j = nI (qd_D T j)) (h : ∀ e' m', qd_Ch s e' m' 0 (qd_lr T s 0) → post (m' 0) (nI s, K, L, qd_t T, d, o, e', m')) : ∀ p, p ≤ s → ∀ e m, qd_Ch s e m p (qd_lr T s p) → wX_findModels_24 post (p + 1) (nI p - 1) (nI s) K L (qd_t T) d o e m := by
  obtain ⟨hs, h26, H, hq4⟩ := G
  intro p
  induction p with
  | zero =>
    intro _ e m hc
    exact br_t (by decide) (h e m hc)
  | succ p ih =>
    intro hp e m hc
    rw [nI_pred]
    refine br_f (nI_pos (by omega)) ⟨vp_in_nI (by omega) (by omega), ?_⟩
    rw [nI_clamp (by omega)]
    refine qx_parts (h26 p) ?_
    have len := qd_lr_l H h0 (show p + 1 ≤ s by omega)
    have ops := qd_op_s (H p (by omega))
    have opp := H p (by omega)
    have arl := qd_ar_le (T p)
    have lrp := qd_lr_p (T := T) (show p < s by omega)
    have nx : nI p + (-1) = nI p - 1 := (Int32.sub_eq_add_neg _ _).symm
    refine pk_eq (qd_ar (T p)) 0 (fun z => ?_) (fun z => pk_eq (qd_ar (T p)) 2 (fun y => ?_) (fun y => ?_))
    · rw [qd_sp0 z] at lrp
      refine ⟨vp_in_nI (by omega) (by omega), nm_r (congrArg (upd e p) (nI_1 p)) ?_⟩
      refine qx_atom (by omega) (qd_ar0 z) (h26 p) (fun m' hm => nm_r nx (ih (by omega) _ _ ?_))
      rw [lrp]
      exact qd_Ch_n (by omega) rfl (by omega) (by omega) hm hc
    · match hl : qd_lr T s (p + 1) with
      | [] => rw [hl] at len; simp at len; omega
      | [f] => rw [hl] at len; simp at len; omega
      | f :: g :: r =>
        rw [hl] at hc
        rw [hl, qd_sp2 y] at lrp
        obtain ⟨c1, ⟨q, c2, c3, c4, ⟨b1, ⟨q2, b2, b3, b4, b5⟩, b6⟩⟩, c6⟩ := hc
        rw [nI_1, nI_clamp (by omega), c2]
        refine ⟨vp_in_nI (by omega) (by omega), nm_e ?_⟩
        rw [nI_clamp (by omega), b2]
        refine ⟨vp_in_nI (by omega) (by omega), vp_in_nI (by omega) (by omega), nm_e ?_⟩
        refine ⟨17, qx_two_l (by omega) (by omega) (by omega) (h26 p) c6 b6 (fun m' hm => nm_r nx (ih (by omega) _ _ ?_)) 16 0 (by omega) m qd_Mi_0⟩
        rw [lrp]
        exact qd_Ch_n (by omega) rfl (by omega) (by omega) hm b5
    · have y1 : qd_ar (T p) = 1 := by omega
      match hl : qd_lr T s (p + 1) with
      | [] => rw [hl] at len; simp at len; omega
      | f :: r =>
        rw [hl] at hc
        rw [hl, qd_sp1 y1] at lrp
        obtain ⟨c1, ⟨q, c2, c3, c4, c5⟩, c6⟩ := hc
        rw [nI_1, nI_clamp (by omega), c2]
        refine ⟨vp_in_nI (by omega) (by omega), vp_in_nI (by omega) (by omega), nm_e ?_⟩
        refine qx_one (D := qd_D T p) (by omega) (h26 p) (fun w => ?_) (hd p (by omega)) c6 (fun m' hm => nm_r nx (ih (by omega) _ _ ?_))
        · have := qd_D_le hq4 (show p < s by omega) opp (qd_ar1 y1 w)
          omega
        · rw [lrp]
          exact qd_Ch_n (by omega) rfl (by omega) (by omega) hm c5
theorem qx_models {post : Int64 → SX → Prop} {T : Nat → Nat} {s : Nat} (G : qd_G T s) (h0 : qd_op T s = 0) {K : Int32} {L : Int64} {d o e : Nat → Int32} {m : Nat → Int64} (h : ∀ r d' o' e' m', (∀ i, i < 64 → qd_lb r i = qd_tr T s i) → post r (nI s, K, L, qd_t T, d', o', e', m')) : wpX_findModels post (nI s, K, L, qd_t T, d, o, e, m) := by
  obtain ⟨f, ef, tf⟩ := qd_lr_0 G.2.2.1 h0
  have hs := G.1
  refine qx_depths G (fun d' o' hd _ => ⟨vp_in_nI (by omega) (by omega), nm_e (nm_e ⟨s + 1, qx_models_l G h0 hd (fun e' m' hc => ?_) s (Nat.le_refl _) _ _ ?_⟩)⟩)
  · rw [ef] at hc
    refine h _ _ _ _ _ (fun i hi => ?_)
    rw [tf i]
    exact hc.2.2 0 (by omega) i hi
  · rw [qd_lr_s]
    rfl
end
section
/-! the reference's read, quantifiers -/
theorem qy_b1 : narrow .boolean (.int (1 : Int32)) = .int 1 ∧ fits .boolean (.int (1 : Int32)) = true := ⟨rfl, rfl⟩
theorem qy_b0 : narrow .boolean (.int (0 : Int32)) = .int 0 ∧ fits .boolean (.int (0 : Int32)) = true := ⟨rfl, rfl⟩
theorem qy_push {post : SY → Prop} {J : Int32 → Int32 → (Nat → Int32) → (Nat → Int32) → (Nat → Int32) → (Nat → Int32) → (Nat → Int32) → Prop} {x2 S W K : Int32} {t a pa q : Nat → Int32} {d x M : Nat} (hx : x < 26) (hM : M ≤ 2) : ∀ (p : Nat) (l : List Nat) (o : Nat → Int32) (c : Nat), c + p = M → l.length + p ≤ 14 → qd_St o l → (∀ o', qd_St o' (List.replicate p (d + qd_q x) ++ l) → J (nI (l.length + p)) (x2 + 1) t a o' pa q) → wY_read_85 post J x2 (nI d) (nI x) (nI M) S W K (p + 1) (nI l.length) (nI c) t a o pa q := by
  intro p
  induction p with
  | zero =>
    intro l o c hc hl ho h
    exact br_t (nI_le (by omega) (by omega)) (nm_e (h o ho))
  | succ p ih =>
    intro l o c hc hl ho h
    have fin : wY_read_85 post J x2 (nI d) (nI x) (nI M) S W K (p + 1) (nI (l.length + 1)) (nI (c + 1)) t a (upd o l.length (nI (d + qd_q x))) pa q := by
      refine ih ((d + qd_q x) :: l) _ (c + 1) (by omega) (by rw [List.length_cons]; omega) (qd_St_p ho) (fun o' ho' => ?_)
      rw [qd_rep] at ho'
      have b := h o' ho'
      rw [List.length_cons, show l.length + 1 + p = l.length + (p + 1) by omega]
      exact b
    refine br_f (nI_ge (by omega) (by omega)) (br_f (nI_ge (b := 16) (by omega) (by omega)) (pk_eq x 4 (fun z => ?_) (fun z => pk_eq x 5 (fun y => ?_) (fun y => ?_))))
    · refine ⟨vp_in_nI (by omega) (by omega), ?_⟩
      rw [nI_clamp (by omega), nI_1]
      rw [show qd_q x = 1 by subst z; rfl] at fin
      exact nm_e (nm_r (nI_1 _) (nm_r (nI_1 _) fin))
    · refine ⟨vp_in_nI (by omega) (by omega), ?_⟩
      rw [nI_clamp (by omega), nI_1]
      rw [show qd_q x = 1 by subst y; rfl] at fin
      exact nm_e (nm_r (nI_1 _) (nm_r (nI_1 _) fin))
    · refine ⟨vp_in_nI (by omega) (by omega), ?_⟩
      rw [nI_clamp (by omega)]
      rw [show qd_q x = 0 by unfold qd_q; rw [if_neg (by omega)]] at fin
      exact nm_e (nm_r (nI_1 _) (nm_r (nI_1 _) fin))
theorem qy_read_l {post : SY → Prop} {T : Nat → Nat} {s : Nat} (G : qd_G T s) {W K : Int32} {pa q : Nat → Int32} (h : ∀ a' o', (∀ j, j < s → a' j = nI (qd_D T j)) → (0 < qd_op T s → a' s = nI (qd_D T s)) → post (nI s, qd_c0 (qd_op T s), K, qd_t T, a', o', pa, q)) : ∀ p k, k + p = s → ∀ a o, qd_St o (qd_os T k) → (∀ j, j < k → a j = nI (qd_D T j)) → wY_read_11 post (nI s) W K (p + 1) (nI (qd_op T k)) (nI k) (qd_t T) a o pa q := by
  obtain ⟨hs, h26, H, _⟩ := G
  intro p
  induction p with
  | zero =>
    intro k hk a o ho ha
    have e : k = s := by omega
    subst e
    have b := qd_op_le H
    refine br_t (nI_le (Nat.le_refl _) (by omega)) (pk_eq (qd_op T k) 0 (fun z => ?_) (fun z => ?_))
    · refine ⟨qy_b1.1, qy_b1.2, br_t (by rw [z]; decide) ⟨vp_in_nI (by omega) (by omega), nm_e ?_⟩⟩
      rw [nI_clamp (by omega)]
      have r := h (upd a k 0) o (fun j hj => by rw [pk_un (by omega)]; exact ha j hj) (fun z' => absurd z' (by omega))
      rw [qd_c0, if_pos z] at r
      exact r
    · obtain ⟨r, er, lr⟩ := qd_os_cons (T := T) (k := k) (by omega)
      rw [er] at ho
      rw [lr] at b ⊢
      refine ⟨qy_b0.1, qy_b0.2, br_f (nI_nle (by omega) (by omega)) ?_⟩
      rw [nI_pred, nI_clamp (by omega), nI_clamp (by omega), ho.1]
      refine ⟨vp_in_nI (by omega) (by omega), vp_in_nI (by omega) (by omega), nm_e ?_⟩
      have f := h (upd a k (nI (qd_D T k))) o (fun j hj => by rw [pk_un (by omega)]; exact ha j hj) (fun _ => pk_us)
      rw [qd_c0, if_neg z] at f
      exact f
  | succ p ih =>
    intro k hk a o ho ha
    have c := H k (by omega)
    have b := qd_op_s c
    have g := qd_op_le (T := T) (k := k) (fun j hj => H j (by omega))
    have g' := qd_op_le (T := T) (k := k + 1) (fun j hj => H j (by omega))
    obtain ⟨r, er, lr⟩ := qd_os_cons c
    rw [er] at ho
    refine br_f (nI_ge (by omega) (by omega)) (br_f (nI_nle (by omega) (by omega)) ?_)
    rw [lr]
    refine nm_r (pk_m1 _) ?_
    rw [nI_clamp (by omega : r.length < 2 ^ 31), nI_clamp (by omega : k < 2 ^ 31), ho.1]
    refine ⟨vp_in_nI (by omega) (by omega), nm_e ⟨vp_in_nI (by omega) (by omega), nm_e ⟨vp_in_nI (by omega) (by omega), nm_e ?_⟩⟩⟩
    have fin : ∃ n, wY_read_85 post (wY_read_11 post (nI s) W K (p + 1)) (nI k) (nI (qd_D T k)) (qd_t T k) (nI (qd_ar (T k))) (nI s) W K n (nI r.length) 0 (qd_t T) (upd a k (nI (qd_D T k))) o pa q := by
      refine ⟨_, qy_push (h26 k) (qd_ar_le _) (qd_ar (T k)) r o 0 (by omega) (by omega) ho.2 (fun o' ho' => ?_)⟩
      rw [← qd_os_s er] at ho'
      rw [nI_1, show r.length + qd_ar (T k) = qd_op T (k + 1) by omega]
      refine ih (k + 1) (by omega) _ o' ho' (fun j hj => ?_)
      by_cases z : j = k
      · subst z; exact pk_us
      · rw [pk_un z]; exact ha j (by omega)
    have x26 := h26 k
    refine pk_eq (T k) 0 (fun z => ?_) (fun z => pk_eq (T k) 4 (fun z4 => ?_) (fun z4 => pk_eq (T k) 5 (fun z5 => ?_) (fun z5 => pk_lt 3 (T k) (fun z3 => ?_) (fun z3 => ?_))))
    · rw [show qd_ar (T k) = 1 by rw [z]; rfl] at fin; exact fin
    · rw [show qd_ar (T k) = 1 by rw [z4]; rfl] at fin; exact fin
    · rw [show qd_ar (T k) = 1 by rw [z5]; rfl] at fin; exact fin
    · rw [show qd_ar (T k) = 0 by unfold qd_ar; rw [if_neg (by omega)]] at fin; exact fin
    · rw [show qd_ar (T k) = 2 by unfold qd_ar; rw [if_pos (by omega), if_pos (by omega)]] at fin; exact fin
theorem qy_read {post : SY → Prop} {T : Nat → Nat} {s : Nat} (G : qd_G T s) {W K : Int32} {a o pa q : Nat → Int32} (h : ∀ a' o', (∀ j, j < s → a' j = nI (qd_D T j)) → (0 < qd_op T s → a' s = nI (qd_D T s)) → post (nI s, qd_c0 (qd_op T s), K, qd_t T, a', o', pa, q)) : wpY_read post (nI s, W, K, qd_t T, a, o, pa, q) :=
  nm_e ⟨s + 1, qy_read_l G h s 0 (by omega) a _ ⟨pk_us, trivial⟩ (fun j hj => absurd hj (by omega))⟩
theorem qy_quant_l {post : Int32 → Prop} {T : Nat → Nat} {s : Nat} (G : qd_G T s) {W K : Int32} {a o pa q : Nat → Int32} (h : post (nI (qd_qc T s))) : ∀ p k, k + p = s → wY_quantifiers_4 post (nI s) W K (qd_t T) a o pa q (p + 1) (nI (qd_qc T k)) (nI k) := by
  obtain ⟨hs, h26, H, _⟩ := G
  intro p
  induction p with
  | zero =>
    intro k hk
    have e : k = s := by omega
    subst e
    exact br_t (nI_le (Nat.le_refl _) (by omega)) h
  | succ p ih =>
    intro k hk
    refine br_f (nI_ge (by omega) (by omega)) ⟨vp_in_nI (by omega) (by omega), ?_⟩
    rw [nI_clamp (by omega)]
    have x26 := h26 k
    have r := ih (k + 1) (by omega)
    unfold qd_qc at r
    refine pk_eq (T k) 4 (fun z => nm_r (nI_1 _) (nm_r (nI_1 k) ?_)) (fun z => ⟨vp_in_nI (by omega) (by omega), pk_eq (T k) 5 (fun y => nm_r (nI_1 _) (nm_r (nI_1 k) ?_)) (fun y => nm_r (Int32.add_zero _) (nm_r (nI_1 k) ?_))⟩)
    · rw [show qd_q (T k) = 1 by rw [z]; rfl] at r; exact r
    · rw [show qd_q (T k) = 1 by rw [y]; rfl] at r; exact r
    · rw [show qd_q (T k) = 0 by unfold qd_q; rw [if_neg (by omega)]] at r; exact r
theorem qy_quant {post : Int32 → Prop} {T : Nat → Nat} {s : Nat} (G : qd_G T s) {W K : Int32} {a o pa q : Nat → Int32} (h : post (nI (qd_qc T s))) : wpY_quantifiers post (nI s, W, K, qd_t T, a, o, pa, q) :=
  ⟨s + 1, qy_quant_l G h s 0 (by omega)⟩
theorem qy_c0 (n : Nat) : narrow .boolean (.int (qd_c0 n)) = .int (qd_c0 n) := by
  unfold qd_c0
  split
  · exact qy_b1.1
  · exact qy_b0.1
theorem qy_bI (b : Bool) : narrow .boolean (.int (qd_bI b)) = .int (qd_bI b) := by
  cases b
  · exact qy_b0.1
  · exact qy_b1.1
theorem qy_nb (b : Bool) : vp_nar .boolean (qd_bI b) = qd_bI b := by cases b <;> rfl
theorem qy_complete {post : Int32 → SY → Prop} {T : Nat → Nat} {s : Nat} (G : qd_G T s) {W K : Int32} {a o pa q : Nat → Int32} (h : ∀ a' o', (∀ j, j < s → a' j = nI (qd_D T j)) → post (qd_c0 (qd_op T s)) (nI s, qd_c0 (qd_op T s), K, qd_t T, a', o', pa, q)) : wpY_complete post (nI s, W, K, qd_t T, a, o, pa, q) := by
  unfold wpY_complete
  exact qy_read G (fun a' o' ha _ => ⟨qy_c0 _, h a' o' ha⟩)
end
section
/-! the reference's truth -/
theorem qy_a86 {post : Int32 → Prop} {J : Int32 → Int32 → Prop} {x1 y S W K : Int32} {t a o pa q : Nat → Int32} {i c b : Nat} (hb : b < 6) (h : J (y ||| (qd_bI (decide (i / 2 ^ b % 2 = 1)) <<< (nI c &&& 31))) (nI (c + 1))) : wY_atom_86 post J x1 (nI i) y (nI c) (nI b) S W K t a o pa q := by
  unfold wY_atom_86
  rw [qd_b1 _ (by omega), qd_bt_nI (by omega)]
  exact nm_e (nm_r (nI_1 c) h)
/-- one bit more of a mask -/
theorem qd_mk {y : Int32} {c : Nat} {f : Nat → Bool} (hc : c < 16) (h1 : ∀ j, j < c → bt y j = f j) (h2 : ∀ j, c ≤ j → j < 32 → bt y j = false) : (∀ j, j < c + 1 → bt (y ||| (qd_bI (f c) <<< (nI c &&& 31))) j = f j) ∧ (∀ j, c + 1 ≤ j → j < 32 → bt (y ||| (qd_bI (f c) <<< (nI c &&& 31))) j = false) := by
  refine ⟨fun j hj => ?_, fun j hj hj2 => ?_⟩
  · rw [b_or, qd_bt_sh (by omega) (by omega)]
    by_cases e : j = c
    · subst e; rw [h2 j (Nat.le_refl _) (by omega), decide_eq_true rfl]; rfl
    · rw [decide_eq_false e, Bool.false_and, Bool.or_false]; exact h1 j (by omega)
  · rw [b_or, qd_bt_sh (by omega) (by omega), h2 j (by omega) hj2, decide_eq_false (by omega)]; rfl
theorem qy_atom_l {post : Int32 → Prop} {S W K : Int32} {t a o pa q : Nat → Int32} {x i : Nat} (h6 : 6 ≤ x) (hx : x < 26) (h : ∀ r, (∀ c, c < 16 → bt r c = qd_at x c i) → post r) : ∀ p c, c + p = 16 → ∀ y, (∀ j, j < c → bt y j = qd_at x j i) → (∀ j, c ≤ j → j < 32 → bt y j = false) → wY_atom_5 post (nI x) (nI i) S W K t a o pa q (p + 1) y (nI c) := by
  intro p
  induction p with
  | zero =>
    intro c hc y h1 _
    have e : c = 16 := by omega
    subst e
    exact br_t qd_16' (h y h1)
  | succ p ih =>
    intro c hc y h1 h2
    have hb := qd_t_ab x hx c (by omega)
    have k := qd_mk (f := fun c => qd_at x c i) (show c < 16 by omega) h1 h2
    have fin : wY_atom_86 post (wY_atom_5 post (nI x) (nI i) S W K t a o pa q (p + 1)) (nI x) (nI i) y (nI c) (nI (qd_ab x c)) S W K t a o pa q :=
      qy_a86 hb (ih (c + 1) (by omega) _ k.1 k.2)
    refine br_f (qd_16 (by omega)) (pk_le 10 x (fun w => ?_) (fun w => ?_))
    · refine ⟨by decide, br_t (nI_le (a := 10) w (by omega)) ⟨by decide, br_t (nI_le (a := 10) w (by omega)) ?_⟩⟩
      rw [qd_r2 w hx, qd_r1 w hx, qd_th (by omega), qd_th (by omega)]
      have e : (2 + 2 * nI (c / 2 ^ ((x - 10) / 4) % 2)) + nI (c / 2 ^ ((x - 10) % 4) % 2) = nI (qd_ab x c) := by
        unfold qd_ab
        rw [if_neg (by omega), show (2 : Int32) = nI 2 from rfl, pk_mul, nI_add, nI_add]
      rw [e]
      exact fin
    · have n10 : ¬ (10 : Int32) ≤ nI x := nI_ge (b := 10) w (by decide)
      refine br_f n10 (br_f n10 ?_)
      rw [qd_r0 h6, qd_th (by omega)]
      unfold qd_ab at fin
      rw [if_pos w] at fin
      exact fin
theorem qy_atom {post : Int32 → Prop} {S W K : Int32} {t a o pa q : Nat → Int32} {x i : Nat} (h6 : 6 ≤ x) (hx : x < 26) (h : ∀ r, (∀ c, c < 16 → bt r c = qd_at x c i) → post r) : wpY_atom post (S, W, K, t, a, o, pa, q) (nI x) (nI i) :=
  ⟨17, qy_atom_l h6 hx h 16 0 (by omega) 0 (fun j hj => absurd hj (by omega)) (fun j _ _ => b_0 j)⟩
theorem qy_bound_l {post : Int32 → Prop} {S W K : Int32} {t a o pa q : Nat → Int32} {x D i : Nat} {f : qd_V} {m z : Int32} (hD : D < 4) (hz : x = 4 → ¬ z = 0) (hz' : x ≠ 4 → z = 0) (hm : ∀ c, c < 16 → bt m c = f c i) (h : ∀ r, (∀ c, c < 16 → bt r c = qd_qu x D f c i) → post r) : ∀ p c, c + p = 16 → ∀ y, (∀ j, j < c → bt y j = qd_qu x D f j i) → (∀ j, c ≤ j → j < 32 → bt y j = false) → wY_bound_6 post m (nI D) z S W K t a o pa q (p + 1) y (nI c) := by
  intro p
  induction p with
  | zero =>
    intro c hc y h1 _
    have e : c = 16 := by omega
    subst e
    exact br_t qd_16' (h y h1)
  | succ p ih =>
    intro c hc y h1 h2
    have k := qd_mk (f := fun c => qd_qu x D f c i) (show c < 16 by omega) h1 h2
    have fin := ih (c + 1) (by omega) _ k.1 k.2
    obtain ⟨e1, l1⟩ := qd_t_cl D hD c (by omega)
    obtain ⟨e2, l2⟩ := qd_t_se D hD c (by omega)
    refine br_f (qd_16 (by omega)) ?_
    rw [e1, e2, qd_b1 _ (by omega), qd_b1 _ (by omega), hm _ l1, hm _ l2]
    refine nm_e (nm_e (br_c (fun w => ?_) (fun w => ?_)))
    · have n4 : x ≠ 4 := fun e => hz e w
      simp only [qd_qu, if_neg n4] at fin
      rw [qd_bI_or]
      exact nm_e (nm_r (nI_1 c) fin)
    · have e4 : x = 4 := Classical.byContradiction (fun e => w (hz' e))
      simp only [qd_qu, if_pos e4] at fin
      rw [qd_bI_and]
      exact nm_e (nm_r (nI_1 c) fin)
theorem qy_bound {post : Int32 → Prop} {S W K : Int32} {t a o pa q : Nat → Int32} {x D i : Nat} {f : qd_V} {m z : Int32} (hD : D < 4) (hz : x = 4 → ¬ z = 0) (hz' : x ≠ 4 → z = 0) (hm : ∀ c, c < 16 → bt m c = f c i) (h : ∀ r, (∀ c, c < 16 → bt r c = qd_qu x D f c i) → post r) : wpY_bound post (S, W, K, t, a, o, pa, q) m (nI D) z :=
  ⟨17, qy_bound_l hD hz hz' hm h 16 0 (by omega) 0 (fun j hj => absurd hj (by omega)) (fun j _ _ => b_0 j)⟩
def qd_Ys (i : Nat) (pa : Nat → Int32) : List qd_V → Prop
  | [] => True
  | f :: r => (∀ c, c < 16 → bt (pa r.length) c = f c i) ∧ qd_Ys i pa r
theorem qd_Ys_u {i : Nat} {pa : Nat → Int32} {k : Nat} {x : Int32} : ∀ {l : List qd_V}, l.length ≤ k → qd_Ys i pa l → qd_Ys i (upd pa k x) l
  | [], _, _ => trivial
  | f :: r, h, H => ⟨by rw [pk_un (by simp at h; omega)]; exact H.1, qd_Ys_u (by simp at h; omega) H.2⟩
theorem qd_Ys_n {i : Nat} {pa : Nat → Int32} {x : Int32} {f : qd_V} {l : List qd_V} (hx : ∀ c, c < 16 → bt x c = f c i) (h : qd_Ys i pa l) : qd_Ys i (upd pa l.length x) (f :: l) :=
  ⟨by rw [pk_us]; exact hx, qd_Ys_u (Nat.le_refl _) h⟩
theorem qd_nb (x : Int32) {c : Nat} (hc : c < 16) : bt ((x ^^^ (-1)) &&& 65535) c = !bt x c := by
  rw [b_and, b_65535, decide_eq_true hc, Bool.and_true, b_xor, b_m1 c (by omega), Bool.xor_true]
theorem qy_truth_l {post : Int32 → SY → Prop} {T : Nat → Nat} {s : Nat} (G : qd_G T s) (h0 : qd_op T s = 0) {W K : Int32} {a o q : Nat → Int32} {i : Nat} (ha : ∀ j, j < s → a j = nI (qd_D T j)) (h : ∀ pa', post (qd_bI (qd_tr T s i)) (nI s, W, K, qd_t T, a, o, pa', q)) : ∀ p, p ≤ s → ∀ pa, qd_Ys i pa (qd_lr T s p) → wY_truth_9 post (nI i) (nI s) W K (p + 1) (nI (qd_op T p)) (nI p - 1) (qd_t T) a o pa q := by
  obtain ⟨hs, h26, H, hq4⟩ := G
  intro p
  induction p with
  | zero =>
    intro _ pa hc
    refine br_t (by decide) ?_
    obtain ⟨f, ef, tf⟩ := qd_lr_0 H h0
    rw [ef] at hc
    have b := hc.1 0 (by omega)
    rw [← tf i] at b
    have r := h pa
    have b' : bt (pa 0) 0 = qd_tr T s i := b
    rw [qd_bit1, b']
    refine br_c (fun z => ?_) (fun z => ?_)
    · rw [z] at r; exact r
    · rw [ts_nt z] at r; exact r
  | succ p ih =>
    intro hp pa hc
    rw [nI_pred]
    refine br_f (nI_pos (by omega)) ⟨vp_in_nI (by omega) (by omega), ?_⟩
    rw [nI_clamp (by omega)]
    have len := qd_lr_l H h0 (show p + 1 ≤ s by omega)
    have ops := qd_op_s (H p (by omega))
    have opp := H p (by omega)
    have opl := qd_op_le (T := T) (k := p) (fun j hj => H j (by omega))
    have arl := qd_ar_le (T p)
    have lrp := qd_lr_p (T := T) (show p < s by omega)
    have nx : nI p + (-1) = nI p - 1 := (Int32.sub_eq_add_neg _ _).symm
    have x26 := h26 p
    have hap := ha p (by omega)
    rw [← len]
    refine nm_r (e' := nI (T p)) rfl ?_
    by_cases z0 : qd_ar (T p) = 0
    · have z6 := qd_ar0 z0
      rw [qd_sp0 z0] at lrp
      refine br_f (nI_nlt (b := 6) z6 (by omega)) (qy_atom z6 x26 (fun r hr => ?_))
      rw [qd_t_a15 _ (by omega), nI_clamp (by omega)]
      refine ⟨vp_in_nI (by omega) (by omega), nm_e (nm_r (nI_1 _) (nm_r nx ?_))⟩
      rw [show (qd_lr T s (p + 1)).length + 1 = qd_op T p by omega]
      refine ih (by omega) _ ?_
      rw [lrp]
      exact qd_Ys_n hr hc
    · have l6 : T p < 6 := by
        rcases Nat.lt_or_ge (T p) 6 with w | w
        · exact w
        · exact absurd (show qd_ar (T p) = 0 by unfold qd_ar; rw [if_neg (by omega)]) z0
      refine br_t (nI_lt (b := 6) l6 (by decide)) ?_
      by_cases z1 : qd_ar (T p) = 1
      · match hl : qd_lr T s (p + 1) with
        | [] => rw [hl] at len; simp at len; omega
        | f :: r =>
          rw [hl] at hc len
          rw [hl, qd_sp1 z1] at lrp
          rw [List.length_cons] at len ⊢
          have e1 : r.length + 1 = qd_op T p := by omega
          have n1 : ¬ nI (r.length + 1) < 1 := nI_nlt (b := 1) (by omega) (by omega)
          refine pk_eq (T p) 0 (fun w => br_f n1 ?_) (fun w => ?_)
          · rw [nI_pred, nI_clamp (by omega)]
            refine ⟨vp_in_nI (by omega) (by omega), vp_in_nI (by omega) (by omega), nm_e (nm_r nx ?_)⟩
            rw [e1]
            refine ih (by omega) _ ?_
            rw [lrp, if_pos w]
            exact qd_Ys_n (fun c hc' => by rw [qd_nb _ hc', hc.1 c hc']; rfl) hc.2
          · have q1 := qd_ar1 z1 w
            have dl := qd_D_le hq4 (show p < s by omega) opp q1
            have x45 : T p = 4 ∨ T p = 5 := by
              unfold qd_q at q1
              by_cases v : T p = 4 ∨ T p = 5
              · exact v
              · rw [if_neg v] at q1; omega
            rw [if_neg w] at lrp
            refine br_f (nI_nlt (b := 4) (by omega) (by omega)) (br_f n1 ?_)
            rw [nI_pred, nI_clamp (by omega), nI_clamp (by omega), hap, qd_t_a3 _ (by omega)]
            refine ⟨vp_in_nI (by omega) (by omega), vp_in_nI (by omega) (by omega), pk_eq (T p) 4 (fun v => ?_) (fun v => ?_)⟩
            · refine qy_bound (x := T p) (f := f) (i := i) (by omega) (fun _ => by decide) (fun v' => absurd v v') hc.1 (fun y hy => ?_)
              rw [nI_clamp (by omega)]
              refine ⟨vp_in_nI (by omega) (by omega), nm_e (nm_r nx ?_)⟩
              rw [e1]
              refine ih (by omega) _ ?_
              rw [lrp]
              exact qd_Ys_n hy hc.2
            · refine qy_bound (x := T p) (f := f) (i := i) (by omega) (fun v' => absurd v' v) (fun _ => rfl) hc.1 (fun y hy => ?_)
              rw [nI_clamp (by omega)]
              refine ⟨vp_in_nI (by omega) (by omega), nm_e (nm_r nx ?_)⟩
              rw [e1]
              refine ih (by omega) _ ?_
              rw [lrp]
              exact qd_Ys_n hy hc.2
      · have z2 : qd_ar (T p) = 2 := by omega
        match hl : qd_lr T s (p + 1) with
        | [] => rw [hl] at len; simp at len; omega
        | [f] => rw [hl] at len; simp at len; omega
        | f :: g :: r =>
          rw [hl] at hc len
          rw [hl, qd_sp2 z2] at lrp
          rw [List.length_cons, List.length_cons] at len ⊢
          have e1 : r.length + 1 = qd_op T p := by omega
          have x123 : T p = 1 ∨ T p = 2 ∨ T p = 3 := by
            unfold qd_ar at z2
            rw [if_pos l6] at z2
            by_cases v : T p = 1 ∨ T p = 2 ∨ T p = 3
            · exact v
            · rw [if_neg v] at z2; omega
          obtain ⟨hf, hg, hr⟩ := hc
          rw [List.length_cons, e1] at hf
          refine br_f (fun w => absurd ((nI_eq (b := 0) (by omega) (by decide)).mp w) (by omega)) (br_t (nI_lt (b := 4) (by omega) (by decide)) (br_f (nI_nlt (b := 2) (by omega) (by omega)) ?_))
          rw [nI_pred, show nI (r.length + 1 + 1) - 2 = nI r.length from pk_sub (b := 2) (by omega), nI_clamp (by omega), nI_clamp (by omega)]
          refine ⟨vp_in_nI (by omega) (by omega), nm_e ⟨vp_in_nI (by omega) (by omega), nm_e (nm_r (pk_m1 _) ?_)⟩⟩
          rw [nI_pred, nI_clamp (by omega)]
          refine pk_eq (T p) 1 (fun v => ?_) (fun v => pk_eq (T p) 2 (fun u => ?_) (fun u => ?_))
          · refine ⟨vp_in_nI (by omega) (by omega), nm_e (nm_r nx ?_)⟩
            rw [e1]
            refine ih (by omega) _ ?_
            rw [lrp]
            refine qd_Ys_n (fun c hc' => ?_) hr
            rw [b_and, hf c hc', hg c hc']
            unfold qd_tw
            rw [if_pos v]
          · refine ⟨vp_in_nI (by omega) (by omega), nm_e (nm_r nx ?_)⟩
            rw [e1]
            refine ih (by omega) _ ?_
            rw [lrp]
            refine qd_Ys_n (fun c hc' => ?_) hr
            rw [b_or, hf c hc', hg c hc']
            unfold qd_tw
            rw [if_neg v, if_pos u]
          · refine ⟨vp_in_nI (by omega) (by omega), nm_e (nm_r nx ?_)⟩
            rw [e1]
            refine ih (by omega) _ ?_
            rw [lrp]
            refine qd_Ys_n (fun c hc' => ?_) hr
            rw [b_and, b_65535, decide_eq_true hc', Bool.and_true, b_or, b_xor, b_m1 c (by omega), Bool.xor_true, hf c hc', hg c hc']
            unfold qd_tw
            rw [if_neg v, if_neg u]
theorem qy_truth {post : Int32 → SY → Prop} {T : Nat → Nat} {s : Nat} (G : qd_G T s) (h0 : qd_op T s = 0) {W K : Int32} {a o pa q : Nat → Int32} {i : Nat} (ha : ∀ j, j < s → a j = nI (qd_D T j)) (h : ∀ pa', post (qd_bI (qd_tr T s i)) (nI s, W, K, qd_t T, a, o, pa', q)) : wpY_truth post (nI s, W, K, qd_t T, a, o, pa, q) (nI i) := by
  refine nm_e ⟨s + 1, ?_⟩
  have r := qy_truth_l (post := post) (i := i) G h0 ha h s (Nat.le_refl _) pa (by rw [qd_lr_s]; trivial)
  rw [h0] at r
  exact r
end
section
/-! the relation, and the methods that only touch the tokens -/
def i_Rel (k : Nat) (u : SX) (v : SY) : Prop := ∃ (T : Nat → Nat) (s : Nat) (K : Int32) (L : Int64) (d o e : Nat → Int32) (m : Nat → Int64) (W : Int32) (a o2 pa q : Nat → Int32), u = (nI s, K, L, qd_t T, d, o, e, m) ∧ v = (nI s, W, K, qd_t T, a, o2, pa, q) ∧ qd_G T s ∧ (K = 0 ∨ K = 1) ∧ ∀ i, i < 64 → q i = qd_bI (qd_lb L i)
theorem qd_rel {k : Nat} {T : Nat → Nat} {s : Nat} {K : Int32} {L : Int64} {d o e : Nat → Int32} {m : Nat → Int64} {W : Int32} {a o2 pa q : Nat → Int32} (G : qd_G T s) (hK : K = 0 ∨ K = 1) (hq : ∀ i, i < 64 → q i = qd_bI (qd_lb L i)) : i_Rel k (nI s, K, L, qd_t T, d, o, e, m) (nI s, W, K, qd_t T, a, o2, pa, q) :=
  ⟨T, s, K, L, d, o, e, m, W, a, o2, pa, q, rfl, rfl, G, hK, hq⟩
theorem i_up {k : Nat} {u : SX} {v : SY} (h : i_Rel k u v) : i_Rel (k + 2) u v := h
theorem qd_G0 {T : Nat → Nat} (h : ∀ k, T k < 26) : qd_G T 0 := ⟨by omega, h, fun k hk => absurd hk (by omega), Nat.zero_le _⟩
theorem qd_G_m {T : Nat → Nat} {s n : Nat} (G : qd_G T s) (h : n ≤ s) : qd_G T n :=
  ⟨by have := G.1; omega, G.2.1, fun k hk => G.2.2.1 k (by omega), Nat.le_trans (qd_qc_mono h) G.2.2.2⟩
theorem i_vc0 : wpX_init (fun u => wpY_init (fun v => i_Rel 0 u v)) :=
  qd_rel (k := 0) (T := fun _ => 0) (s := 0) (qd_G0 (fun _ => by decide)) (Or.inl rfl) (fun i _ => by rw [qd_lb_0]; rfl)
def qd_T (T : Nat → Nat) (s j : Nat) : Nat → Nat := fun k => if k = s then j else T k
theorem qd_T_t (T : Nat → Nat) (s j : Nat) : upd (qd_t T) s (nI j) = qd_t (qd_T T s j) := by
  funext k
  unfold upd qd_t qd_T
  split <;> rfl
theorem qd_T_lo {T : Nat → Nat} {s j k : Nat} (h : k < s) : T k = qd_T T s j k := by
  unfold qd_T
  rw [if_neg (by omega)]
theorem qd_G_s {T : Nat → Nat} {s j : Nat} (G : qd_G T s) (hs : s < 13) (hj : j < 26) (ho : 0 < qd_op T s) (hq : qd_qc T s + qd_q j ≤ 4) : qd_G (qd_T T s j) (s + 1) := by
  refine ⟨by omega, fun k => ?_, fun k hk => ?_, ?_⟩
  · unfold qd_T
    split
    · exact hj
    · exact G.2.1 k
  · rw [← qd_op_ext (T := T) (T' := qd_T T s j) (fun i hi => qd_T_lo (by omega))]
    by_cases e : k = s
    · subst e; exact ho
    · exact G.2.2.1 k (by omega)
  · unfold qd_qc
    rw [← qd_qc_ext (T := T) (T' := qd_T T s j) (fun i hi => qd_T_lo (by omega)), show qd_T T s j s = j from if_pos rfl]
    exact hq
theorem i_vc_back {k : Nat} {u : SX} {v : SY} (I : i_Rel k u v) (hk : k + 2 ≤ 1024) : wpX_back (fun r u' => wpY_back (fun r' v' => r' = r ∧ i_Rel (k + 2) u' v') v) u := by
  obtain ⟨T, s, K, L, d, o, e, m, W, a, o2, pa, q, rfl, rfl, G, hK, hq⟩ := I
  have hs := G.1
  cases s with
  | zero => exact br_t rfl (br_t rfl ⟨rfl, qd_rel G hK hq⟩)
  | succ n =>
    have ne : ¬ nI (n + 1) = 0 := nI_ne0 (by omega) (by omega)
    refine br_f ne (nm_r (nI_pred n) ⟨vp_in_nI (by omega) (by omega), br_f ne (nm_r (nI_pred n) ⟨vp_in_nI (by omega) (by omega), rfl, qd_rel (qd_G_m G (by omega)) hK hq⟩)⟩)
theorem i_vc_clear {k : Nat} {u : SX} {v : SY} (I : i_Rel k u v) (hk : k + 2 ≤ 1024) : wpX_clear (fun u' => wpY_clear (fun v' => i_Rel (k + 2) u' v') v) u := by
  obtain ⟨T, s, K, L, d, o, e, m, W, a, o2, pa, q, rfl, rfl, G, hK, hq⟩ := I
  exact qd_rel (k := k + 2) (s := 0) (qd_G0 G.2.1) hK hq
theorem i_vc_length {k : Nat} {u : SX} {v : SY} (I : i_Rel k u v) (hk : k + 2 ≤ 1024) : wpX_length (fun r => wpY_length (fun r' => r' = r ∧ i_Rel (k + 2) u v) v) u := by
  obtain ⟨T, s, K, L, d, o, e, m, W, a, o2, pa, q, rfl, rfl, G, hK, hq⟩ := I
  exact ⟨rfl, qd_rel G hK hq⟩
theorem i_vc_token {k : Nat} {u : SX} {v : SY} (I : i_Rel k u v) (hk : k + 2 ≤ 1024) (v1 : Int32) : wpX_token (fun r => wpY_token (fun r' => r' = r ∧ i_Rel (k + 2) u v) v v1) u v1 := by
  obtain ⟨T, s, K, L, d, o, e, m, W, a, o2, pa, q, rfl, rfl, G, hK, hq⟩ := I
  have hs := G.1
  have R : i_Rel (k + 2) (nI s, K, L, qd_t T, d, o, e, m) (nI s, W, K, qd_t T, a, o2, pa, q) := qd_rel G hK hq
  by_cases h0 : v1 < 0
  · exact br_t h0 (br_t h0 ⟨rfl, R⟩)
  · obtain ⟨j, hj, rfl⟩ := nI_of h0
    refine br_f h0 (pk_lt j s (fun h => ?_) (fun h => ?_))
    · have hi : vp_in (nI j) 13 := vp_in_nI (by omega) (by omega)
      exact ⟨hi, br_f h0 (br_t (nI_lt h (by omega)) ⟨hi, rfl, R⟩)⟩
    · exact br_f h0 (br_f (nI_nlt h hj) ⟨rfl, R⟩)
theorem i_vc_complete {k : Nat} {u : SX} {v : SY} (I : i_Rel k u v) (hk : k + 2 ≤ 1024) : wpX_complete (fun r => wpY_complete (fun r' v' => r' = r ∧ i_Rel (k + 2) u v') v) u := by
  obtain ⟨T, s, K, L, d, o, e, m, W, a, o2, pa, q, rfl, rfl, G, hK, hq⟩ := I
  exact qx_complete G (qy_complete G (fun a' o' _ => ⟨rfl, qd_rel G hK hq⟩))
/-! feed -/
theorem qx_f37 {post : Int32 → SX → Prop} {T : Nat → Nat} {s j : Nat} (G : qd_G T s) (hs : s < 13) (ho : 0 < qd_op T s) (hj : j < 26) {K : Int32} {L : Int64} {d o e : Nat → Int32} {m : Nat → Int64} (h1 : qd_vn j ≤ qd_D T s → ∀ d' o', post (nI (s + 1)) (nI (s + 1), K, L, qd_t (qd_T T s j), d', o', e, m)) (h2 : qd_D T s < qd_vn j → ∀ d' o', post (-1) (nI s, K, L, qd_t T, d', o', e, m)) : wX_feed_37 post (nI j) (nI s) K L (qd_t T) d o e m := by
  refine br_f (nI_pos (by omega)) (br_t (nI_le (b := 25) (by omega) (by decide)) ?_)
  refine qx_depths G (fun d' o' _ hd => qx_vn hj ⟨vp_in_nI (by omega) (by omega), ?_⟩)
  have vl : qd_vn j ≤ 20 := by
    unfold qd_vn
    split
    · omega
    · split
      · omega
      · split <;> omega
  have dl := qd_D_14 ho
  rw [nI_clamp (by omega), hd ho]
  refine pk_le (qd_vn j) (qd_D T s) (fun w => ⟨vp_in_nI (by omega) (by omega), ?_⟩) (fun w => h2 w d' o')
  rw [qd_T_t]
  exact nm_e (nm_r (nI_1 s) (h1 w d' o'))
theorem qy_f125 {post : Int32 → SY → Prop} {T : Nat → Nat} {s j : Nat} (hs : s < 13) {W K : Int32} {a o pa q : Nat → Int32} (h : post (nI (s + 1)) (nI (s + 1), W, K, qd_t (qd_T T s j), a, o, pa, q)) : wY_feed_125 post (nI j) (nI s) W K (qd_t T) a o pa q := by
  refine ⟨vp_in_nI (by omega) (by omega), ?_⟩
  rw [nI_clamp (by omega), qd_T_t]
  exact nm_e (nm_r (nI_1 s) h)
theorem qy_f41 {post : Int32 → SY → Prop} {T : Nat → Nat} {s j : Nat} (hs : s < 13) (ho : 0 < qd_op T s) (hj : j < 26) {W K : Int32} {a o pa q : Nat → Int32} (ha : a s = nI (qd_D T s)) (h1 : qd_vn j ≤ qd_D T s → post (nI (s + 1)) (nI (s + 1), W, K, qd_t (qd_T T s j), a, o, pa, q)) (h2 : qd_D T s < qd_vn j → post (-1) (nI s, W, K, qd_t T, a, o, pa, q)) : wY_feed_41 post (nI j) (nI s) W K (qd_t T) a o pa q := by
  have dl := qd_D_14 ho
  have n0 : ¬ nI j < 0 := nI_pos (by omega)
  have n25 : ¬ (25 : Int32) < nI j := nI_nlt (a := 25) (by omega) (by decide)
  have ix : vp_in (nI s) 14 := vp_in_nI (by omega) (by omega)
  have low : j < 6 → ∀ x2 z0, wY_feed_80 post (nI j) x2 z0 (nI s) W K (qd_t T) a o pa q := fun h6 x2 z0 =>
    br_f n0 (br_f n25 (br_t (nI_lt (b := 6) h6 (by decide)) (qy_f125 hs (h1 (by unfold qd_vn; rw [if_pos h6]; omega)))))
  have high : 6 ≤ j → ∀ v w, v < 2 ^ 31 → w < 2 ^ 31 → (qd_vn j ≤ qd_D T s ↔ v < qd_D T s ∧ w < qd_D T s) → wY_feed_80 post (nI j) (nI v) (nI w) (nI s) W K (qd_t T) a o pa q := by
    intro h6 v w hv hw hi
    refine br_f n0 (br_f n25 (br_f (nI_nlt (b := 6) h6 (by omega)) ⟨ix, ?_⟩))
    rw [nI_clamp (by omega), ha]
    refine pk_le (qd_D T s) v (fun z => h2 (by omega)) (fun z => ⟨ix, pk_lt w (qd_D T s) (fun y => qy_f125 hs (h1 (hi.mpr ⟨z, y⟩))) (fun y => h2 (by omega))⟩)
  rcases Nat.lt_or_ge j 10 with h10 | h10
  · have n10 : ¬ (10 : Int32) ≤ nI j := nI_ge (b := 10) h10 (by decide)
    refine br_f n10 (br_f n10 ?_)
    rcases Nat.lt_or_ge j 6 with h6 | h6
    · exact low h6 _ _
    · rw [qd_r0 h6]
      refine high h6 _ _ (by omega) (by omega) ?_
      unfold qd_vn
      rw [if_neg (by omega), if_pos h10]
      omega
  · have y10 : (10 : Int32) ≤ nI j := nI_le (a := 10) h10 (by omega)
    refine br_t y10 ⟨by decide, br_t y10 ⟨by decide, ?_⟩⟩
    rw [qd_r2 h10 hj, qd_r1 h10 hj]
    refine high (by omega) _ _ (by omega) (by omega) ?_
    unfold qd_vn
    rw [if_neg (by omega), if_neg (by omega)]
    split <;> omega
theorem qy_fbad {post : Int32 → SY → Prop} {x S W K : Int32} {t a o pa q : Nat → Int32} (hx : x < 0 ∨ (25 : Int32) < x) (h : post (-1) (S, W, K, t, a, o, pa, q)) : wY_feed_41 post x S W K t a o pa q := by
  have F : ∀ x2 z0, wY_feed_80 post x x2 z0 S W K t a o pa q := fun x2 z0 => br_c (fun _ => h) (fun z => br_t (hx.resolve_left z) h)
  have E : ∀ z0, wY_feed_60 post x z0 S W K t a o pa q := fun z0 => br_c (fun _ => ⟨by decide, F _ _⟩) (fun _ => F _ _)
  exact br_c (fun _ => ⟨by decide, E _⟩) (fun _ => E _)
theorem qd_45 {x : Int32} (hx : x < 0 ∨ (25 : Int32) < x) : ¬ x = 4 ∧ ¬ x = 5 :=
  ⟨fun e => by subst e; exact absurd hx (by decide), fun e => by subst e; exact absurd hx (by decide)⟩
theorem i_vc_feed {k : Nat} {u : SX} {v : SY} (I : i_Rel k u v) (hk : k + 2 ≤ 1024) (v1 : Int32) : wpX_feed (fun r u' => wpY_feed (fun r' v' => r' = r ∧ i_Rel (k + 2) u' v') v v1) u v1 := by
  obtain ⟨T, s, K, L, d, o, e, m, W, a, o2, pa, q, rfl, rfl, G, hK, hq⟩ := I
  have hs := G.1
  rcases Nat.lt_or_ge s 13 with h13 | h13
  · have n13 : ¬ (13 : Int32) ≤ nI s := nI_ge (b := 13) h13 (by decide)
    refine br_f n13 (qx_complete G ?_)
    by_cases h0 : qd_op T s = 0
    · rw [h0]
      refine br_f (by decide) ?_
      unfold wpY_feed
      refine qy_read G (fun a' o' _ _ => br_f n13 ?_)
      rw [h0]
      exact br_f (by decide) ⟨rfl, qd_rel G hK hq⟩
    · have c0 : qd_c0 (qd_op T s) = 0 := if_neg h0
      have op : 0 < qd_op T s := by omega
      rw [c0]
      refine br_t rfl ?_
      by_cases bad : v1 < 0 ∨ (25 : Int32) < v1
      · obtain ⟨n4, n5⟩ := qd_45 bad
        have fin : wpY_feed (fun r' v' => r' = -1 ∧ i_Rel (k + 2) (nI s, K, L, qd_t T, d, o, e, m) v') (nI s, W, K, qd_t T, a, o2, pa, q) v1 := by
          unfold wpY_feed
          refine qy_read G (fun a' o' _ _ => br_f n13 ?_)
          rw [c0]
          exact br_t rfl (br_f n4 (br_f n5 (qy_fbad bad ⟨rfl, qd_rel G hK hq⟩)))
        refine br_f n4 (br_f n5 (br_t rfl ?_))
        exact br_c (fun _ => fin) (fun z => br_f (Int32.not_le.mpr (bad.resolve_left z)) fin)
      · obtain ⟨j, hj, rfl⟩ := nI_of (x := v1) (fun z => bad (Or.inl z))
        have j26 : j < 26 := by
          rcases Nat.lt_or_ge j 26 with z | z
          · exact z
          · exact absurd (Or.inr (nI_lt (a := 25) z hj)) bad
        by_cases hf : qd_q j = 1 ∧ 4 ≤ qd_qc T s
        · have qf : qd_qc T s ≤ 13 := by have := qd_qc_le (T := T) s; omega
          have j45 : j = 4 ∨ j = 5 := by
            have h := hf.1
            unfold qd_q at h
            by_cases z : j = 4 ∨ j = 5
            · exact z
            · rw [if_neg z] at h; omega
          have n4 : ¬ nI (qd_qc T s) < 4 := nI_nlt (b := 4) hf.2 (by omega)
          have fin : ∀ u', (∀ v', (∃ a' o', v' = (nI s, qd_c0 (qd_op T s), K, qd_t T, a', o', pa, q)) → i_Rel (k + 2) u' v') → wpY_feed (fun r' v' => r' = -2 ∧ i_Rel (k + 2) u' v') (nI s, W, K, qd_t T, a, o2, pa, q) (nI j) := by
            intro u' hu
            unfold wpY_feed
            refine qy_read G (fun a' o' _ _ => br_f n13 (br_t c0 ?_))
            have z30 : wY_feed_30 (fun r' v' => r' = -2 ∧ i_Rel (k + 2) u' v') (nI j) (nI s) (qd_c0 (qd_op T s)) K (qd_t T) a' o' pa q :=
              qy_quant G (br_f n4 ⟨rfl, hu _ ⟨a', o', rfl⟩⟩)
            rcases j45 with z | z
            · subst z; exact br_t rfl z30
            · subst z; exact br_f (by decide) (br_t rfl z30)
          refine qx_isq j26 ?_
          rw [hf.1]
          refine br_f (by decide) (qx_quant G (br_f n4 (fin _ ?_)))
          rintro v' ⟨a', o', rfl⟩
          exact qd_rel G hK hq
        · have q1 := qd_q_le j
          have q4 := G.2.2.2
          have qs : qd_qc T s + qd_q j ≤ 4 := by omega
          have G' := qd_G_s G h13 j26 op qs
          have Y41 : ∀ (post : Int32 → SY → Prop), (∀ a' o', a' s = nI (qd_D T s) → wY_feed_41 post (nI j) (nI s) 0 K (qd_t T) a' o' pa q) → wpY_feed post (nI s, W, K, qd_t T, a, o2, pa, q) (nI j) := by
            intro post hp
            unfold wpY_feed
            refine qy_read G (fun a' o' _ ha => br_f n13 ?_)
            rw [c0]
            have r := hp a' o' (ha op)
            have z30 : qd_q j = 1 → wY_feed_30 post (nI j) (nI s) 0 K (qd_t T) a' o' pa q :=
              fun z => qy_quant G (br_t (nI_lt (b := 4) (by omega) (by decide)) r)
            refine br_t rfl (pk_eq j 4 (fun z => z30 (by subst z; rfl)) (fun z => pk_eq j 5 (fun y => z30 (by subst y; rfl)) (fun _ => r)))
          have X37 : wX_feed_37 (fun r u' => wpY_feed (fun r' v' => r' = r ∧ i_Rel (k + 2) u' v') (nI s, W, K, qd_t T, a, o2, pa, q) (nI j)) (nI j) (nI s) K L (qd_t T) d o e m := by
            refine qx_f37 G h13 op j26 (fun w d' o' => Y41 _ (fun a' o' ha => ?_)) (fun w d' o' => Y41 _ (fun a' o' ha => ?_))
            · exact qy_f41 h13 op j26 ha (fun _ => ⟨rfl, qd_rel G' hK hq⟩) (fun w' => absurd w' (by omega))
            · exact qy_f41 h13 op j26 ha (fun w' => absurd w' (by omega)) (fun _ => ⟨rfl, qd_rel G hK hq⟩)
          refine qx_isq j26 (pk_eq (qd_q j) 0 (fun z => X37) (fun z => qx_quant G (br_t (nI_lt (b := 4) (by omega) (by decide)) X37)))
  · have y13 : (13 : Int32) ≤ nI s := nI_le (a := 13) h13 (by omega)
    refine br_t y13 ?_
    unfold wpY_feed
    exact qy_read G (fun a' o' _ _ => br_t y13 ⟨rfl, qd_rel G hK hq⟩)
end
section
/-! the methods that ask for the truth -/
def qd_ho (T : Nat → Nat) (s i : Nat) : Bool := decide (qd_op T s = 0) && qd_tr T s i
theorem qd_ho_c {T : Nat → Nat} {s : Nat} (h : qd_op T s = 0) (i : Nat) : qd_ho T s i = qd_tr T s i := by
  unfold qd_ho
  rw [decide_eq_true h, Bool.true_and]
theorem qd_ho_n {T : Nat → Nat} {s : Nat} (h : ¬ qd_op T s = 0) (i : Nat) : qd_ho T s i = false := by
  unfold qd_ho
  rw [decide_eq_false h, Bool.false_and]
theorem qd_c0_1 {n : Nat} (h : n = 0) : qd_c0 n = 1 := if_pos h
theorem qd_c0_0 {n : Nat} (h : ¬ n = 0) : qd_c0 n = 0 := if_neg h
theorem qd_bI_br {b : Bool} {A B : Prop} (h1 : b = false → A) (h2 : b = true → B) : (qd_bI b = 0 → A) ∧ (¬ qd_bI b = 0 → B) := by
  cases b
  · exact br_t rfl (h1 rfl)
  · exact br_f (by decide) (h2 rfl)
theorem qy_holds {post : Int32 → SY → Prop} {T : Nat → Nat} {s : Nat} (G : qd_G T s) {W K : Int32} {a o pa q : Nat → Int32} {i : Nat} (hi : i < 64) (h : ∀ W' a' o' pa', post (qd_bI (qd_ho T s i)) (nI s, W', K, qd_t T, a', o', pa', q)) : wpY_holds post (nI s, W, K, qd_t T, a, o, pa, q) (nI i) := by
  unfold wpY_holds
  refine qy_read G (fun a' o' ha _ => ?_)
  by_cases h0 : qd_op T s = 0
  · refine br_f (by rw [qd_c0_1 h0]; decide) (br_f (nI_pos (by omega)) (br_f (nI_nlt (a := 63) (by omega) (by decide)) (qy_truth G h0 ha (fun pa' => ?_))))
    have r := h (qd_c0 (qd_op T s)) a' o' pa'
    rw [qd_ho_c h0] at r
    refine qd_bI_br (fun z => ?_) (fun z => ?_)
    · rw [z] at r; exact r
    · rw [z] at r; exact r
  · refine br_t (qd_c0_0 h0) ?_
    have r := h (qd_c0 (qd_op T s)) a' o' pa
    rw [qd_ho_n h0] at r
    exact r
theorem qy_holds_out {post : Int32 → SY → Prop} {T : Nat → Nat} {s : Nat} (G : qd_G T s) {W K x : Int32} {a o pa q : Nat → Int32} (hx : x < 0 ∨ (63 : Int32) < x) (h : ∀ W' a' o' pa', post 0 (nI s, W', K, qd_t T, a', o', pa', q)) : wpY_holds post (nI s, W, K, qd_t T, a, o, pa, q) x := by
  unfold wpY_holds
  refine qy_read G (fun a' o' ha _ => ?_)
  exact br_c (fun _ => h _ _ _ _) (fun _ => br_c (fun _ => h _ _ _ _) (fun z => br_t (hx.resolve_left z) (h _ _ _ _)))
/-- an interpretation, or not -/
theorem qd_int (x : Int32) : (x < 0 ∨ (64 : Int32) ≤ x ∧ (63 : Int32) < x) ∨ ∃ i, i < 64 ∧ x = nI i := by
  by_cases h : x < 0
  · exact Or.inl (Or.inl h)
  · obtain ⟨j, hj, rfl⟩ := nI_of h
    rcases Nat.lt_or_ge j 64 with z | z
    · exact Or.inr ⟨j, z, rfl⟩
    · exact Or.inl (Or.inr ⟨nI_le (a := 64) z hj, nI_lt (a := 63) (by omega) hj⟩)
theorem qx_isi0 {post : Int32 → Prop} {x : Int32} (hx : x < 0 ∨ (64 : Int32) ≤ x ∧ (63 : Int32) < x) (h : post 0) : wpX_isInterpretation post x :=
  br_c (fun _ => h) (fun z => br_t (hx.resolve_left z).1 h)
theorem qx_isi1 {post : Int32 → Prop} {i : Nat} (hi : i < 64) (h : post 1) : wpX_isInterpretation post (nI i) :=
  br_f (nI_pos (by omega)) (br_f (nI_ge (b := 64) hi (by decide)) h)
theorem i_vc_holds {k : Nat} {u : SX} {v : SY} (I : i_Rel k u v) (hk : k + 2 ≤ 1024) (v1 : Int32) : wpX_holds (fun r u' => wpY_holds (fun r' v' => r' = r ∧ i_Rel (k + 2) u' v') v v1) u v1 := by
  obtain ⟨T, s, K, L, d, o, e, m, W, a, o2, pa, q, rfl, rfl, G, hK, hq⟩ := I
  unfold wpX_holds
  rcases qd_int v1 with hx | ⟨i, hi, rfl⟩
  · exact qx_isi0 hx (br_t rfl (qy_holds_out G (hx.imp id And.right) (fun _ _ _ _ => ⟨rfl, qd_rel G hK hq⟩)))
  · refine qx_isi1 hi (br_f (by decide) (qx_complete G ?_))
    by_cases h0 : qd_op T s = 0
    · refine br_f (by rw [qd_c0_1 h0]; decide) (qx_models G h0 (fun r d' o' e' m' hr => qx_contains hi ⟨qy_bI _, ?_⟩))
      refine qy_holds G hi (fun _ _ _ _ => ⟨?_, qd_rel G hK hq⟩)
      rw [qd_ho_c h0, hr i hi]
    · refine br_t (qd_c0_0 h0) (qy_holds G hi (fun _ _ _ _ => ⟨?_, qd_rel G hK hq⟩))
      rw [qd_ho_n h0]
      rfl
/-! models, valid -/
theorem qy_models_l {post : Int32 → SY → Prop} {T : Nat → Nat} {s : Nat} (G : qd_G T s) (h0 : qd_op T s = 0) {W K : Int32} {a o q : Nat → Int32} (ha : ∀ j, j < s → a j = nI (qd_D T j)) (h : ∀ pa', post (nI (qd_cn (qd_tr T s) 64)) (nI s, W, K, qd_t T, a, o, pa', q)) : ∀ p k, k + p = 64 → ∀ pa, wY_models_13 post (p + 1) (nI (qd_cn (qd_tr T s) k)) (nI k) (nI s) W K (qd_t T) a o pa q := by
  intro p
  induction p with
  | zero =>
    intro k hk pa
    have e : k = 64 := by omega
    subst e
    exact br_t (by decide) (h pa)
  | succ p ih =>
    intro k hk pa
    refine br_f (nI_ge (b := 64) (by omega) (by decide)) (qy_truth G h0 ha (fun pa' => ?_))
    have r := ih (k + 1) (by omega) pa'
    unfold qd_cn at r
    refine qd_bI_br (fun z => ?_) (fun z => ?_)
    · rw [z] at r
      exact nm_r (Int32.add_zero _) (nm_r (nI_1 k) r)
    · rw [z] at r
      exact nm_r (nI_1 _) (nm_r (nI_1 k) r)
theorem qy_models {post : Int32 → SY → Prop} {T : Nat → Nat} {s : Nat} (G : qd_G T s) {W K : Int32} {a o pa q : Nat → Int32} (h1 : qd_op T s = 0 → ∀ W' a' o' pa', post (nI (qd_cn (qd_tr T s) 64)) (nI s, W', K, qd_t T, a', o', pa', q)) (h2 : ¬ qd_op T s = 0 → ∀ W' a' o' pa', post (-1) (nI s, W', K, qd_t T, a', o', pa', q)) : wpY_models post (nI s, W, K, qd_t T, a, o, pa, q) := by
  unfold wpY_models
  refine qy_complete G (fun a' o' ha => ?_)
  by_cases h0 : qd_op T s = 0
  · exact br_f (by rw [qd_c0_1 h0]; decide) ⟨65, qy_models_l G h0 ha (fun _ => h1 h0 _ _ _ _) 64 0 (by omega) pa⟩
  · exact br_t (qd_c0_0 h0) (h2 h0 _ _ _ _)
theorem i_vc_models {k : Nat} {u : SX} {v : SY} (I : i_Rel k u v) (hk : k + 2 ≤ 1024) : wpX_models (fun r u' => wpY_models (fun r' v' => r' = r ∧ i_Rel (k + 2) u' v') v) u := by
  obtain ⟨T, s, K, L, d, o, e, m, W, a, o2, pa, q, rfl, rfl, G, hK, hq⟩ := I
  unfold wpX_models
  refine qx_complete G ?_
  by_cases h0 : qd_op T s = 0
  · refine br_f (by rw [qd_c0_1 h0]; decide) (qx_models G h0 (fun r d' o' e' m' hr => qx_count (qy_models G (fun _ _ _ _ _ => ⟨?_, qd_rel G hK hq⟩) (fun z => absurd h0 z))))
    rw [qd_cn_ext hr]
  · exact br_t (qd_c0_0 h0) (qy_models G (fun z => absurd z h0) (fun _ _ _ _ _ => ⟨rfl, qd_rel G hK hq⟩))
theorem i_vc_valid {k : Nat} {u : SX} {v : SY} (I : i_Rel k u v) (hk : k + 2 ≤ 1024) : wpX_valid (fun r u' => wpY_valid (fun r' v' => r' = r ∧ i_Rel (k + 2) u' v') v) u := by
  obtain ⟨T, s, K, L, d, o, e, m, W, a, o2, pa, q, rfl, rfl, G, hK, hq⟩ := I
  unfold wpX_valid
  refine qx_complete G ?_
  by_cases h0 : qd_op T s = 0
  · refine br_f (by rw [qd_c0_1 h0]; decide) (qx_models G h0 (fun r d' o' e' m' hr => ?_))
    have cl := qd_cn_le (qd_tr T s) 64
    have key : r = -1 ↔ nI (qd_cn (qd_tr T s) 64) = 64 := by
      rw [show (64 : Int32) = nI 64 from rfl, nI_eq (by omega) (by omega), qd_cn_all]
      constructor
      · intro z i hi
        rw [← hr i hi, z, qd_lb_m1 i hi]
      · intro z
        apply qd_lb_ext
        intro i hi
        rw [hr i hi, z i hi, qd_lb_m1 i hi]
    have fin : ∀ u' x, (∀ W' a' o' pa', i_Rel (k + 2) u' (nI s, W', K, qd_t T, a', o', pa', q)) → (x = if r = -1 then (1 : Int32) else 0) → wpY_valid (fun r' v' => r' = x ∧ i_Rel (k + 2) u' v') (nI s, W, K, qd_t T, a, o2, pa, q) := by
      intro u' x hu hx
      unfold wpY_valid
      refine qy_models G (fun _ W' a' o' pa' => br_c (fun z => ⟨?_, hu _ _ _ _⟩) (fun z => ⟨?_, hu _ _ _ _⟩)) (fun z => absurd h0 z)
      · rw [hx, if_pos (key.mpr z)]
      · rw [hx, if_neg (fun y => z (key.mp y))]
    refine br_c (fun z => fin _ _ (fun _ _ _ _ => qd_rel G hK hq) ?_) (fun z => fin _ _ (fun _ _ _ _ => qd_rel G hK hq) ?_)
    · rw [if_pos z]
    · rw [if_neg z]
  · refine br_t (qd_c0_0 h0) ?_
    unfold wpY_valid
    exact qy_models G (fun z => absurd z h0) (fun _ _ _ _ _ => br_f (by decide) ⟨rfl, qd_rel G hK hq⟩)
/-! modelFrom -/
def qd_ff (f : Nat → Bool) : Nat → Nat → Int32
  | 0, _ => -1
  | p + 1, k => if f k then nI k else qd_ff f p (k + 1)
theorem qd_ff_ext {f g : Nat → Bool} : ∀ p k, (∀ i, i < k + p → f i = g i) → qd_ff f p k = qd_ff g p k
  | 0, _, _ => rfl
  | p + 1, k, h => by
    unfold qd_ff
    rw [h k (by omega), qd_ff_ext p (k + 1) (fun i hi => h i (by omega))]
theorem qd_ff_n {f : Nat → Bool} (h : ∀ i, f i = false) : ∀ p k, qd_ff f p k = -1
  | 0, _ => rfl
  | p + 1, k => by
    unfold qd_ff
    rw [h k, qd_ff_n h p (k + 1)]
    rfl
theorem qx_from_l {post : Int32 → SX → Prop} {x : Int64} {S K : Int32} {L : Int64} {t d o e : Nat → Int32} {m : Nat → Int64} : ∀ p k, k + p = 64 → post (qd_ff (qd_lb x) p k) (S, K, L, t, d, o, e, m) → wX_modelFrom_24 post x S K L t d o e m (p + 1) (nI k) := by
  intro p
  induction p with
  | zero =>
    intro k hk h
    have e : k = 64 := by omega
    subst e
    exact br_t (by decide) h
  | succ p ih =>
    intro k hk h
    refine br_f (nI_ge (b := 64) (by omega) (by decide)) (qx_contains (by omega) ?_)
    unfold qd_ff at h
    refine qd_bI_br (fun z => ?_) (fun z => ?_)
    · rw [z] at h
      exact nm_r (nI_1 k) (ih (k + 1) (by omega) h)
    · rw [z] at h
      exact h
theorem qy_from_l {post : Int32 → SY → Prop} {T : Nat → Nat} {s : Nat} (G : qd_G T s) {K : Int32} {q : Nat → Int32} : ∀ p k, k + p = 64 → ∀ W a o pa, (∀ W' a' o' pa', post (qd_ff (qd_ho T s) p k) (nI s, W', K, qd_t T, a', o', pa', q)) → wY_modelFrom_2 post (p + 1) (nI k) (nI s) W K (qd_t T) a o pa q := by
  intro p
  induction p with
  | zero =>
    intro k hk W a o pa h
    have e : k = 64 := by omega
    subst e
    exact br_f (by decide) (br_t (by decide) (h _ _ _ _))
  | succ p ih =>
    intro k hk W a o pa h
    refine br_f (nI_pos (by omega)) (br_f (nI_nlt (a := 63) (by omega) (by decide)) (qy_holds G (by omega) (fun W' a' o' pa' => ?_)))
    unfold qd_ff at h
    refine qd_bI_br (fun z => ?_) (fun z => ?_)
    · rw [z] at h
      exact nm_r (nI_1 k) (ih (k + 1) (by omega) _ _ _ _ h)
    · rw [z] at h
      exact h _ _ _ _
theorem i_vc_modelFrom {k : Nat} {u : SX} {v : SY} (I : i_Rel k u v) (hk : k + 2 ≤ 1024) (v1 : Int32) : wpX_modelFrom (fun r u' => wpY_modelFrom (fun r' v' => r' = r ∧ i_Rel (k + 2) u' v') v v1) u v1 := by
  obtain ⟨T, s, K, L, d, o, e, m, W, a, o2, pa, q, rfl, rfl, G, hK, hq⟩ := I
  unfold wpX_modelFrom
  rcases qd_int v1 with hx | ⟨i, hi, rfl⟩
  · exact qx_isi0 hx (br_t rfl ⟨1, br_c (fun _ => ⟨rfl, qd_rel G hK hq⟩) (fun z => br_t (hx.resolve_left z).2 ⟨rfl, qd_rel G hK hq⟩)⟩)
  · refine qx_isi1 hi (br_f (by decide) (qx_complete G ?_))
    by_cases h0 : qd_op T s = 0
    · refine br_f (by rw [qd_c0_1 h0]; decide) (qx_models G h0 (fun r d' o' e' m' hr => ⟨64 - i + 1, qx_from_l (64 - i) i (by omega) ⟨64 - i + 1, qy_from_l G (64 - i) i (by omega) _ _ _ _ (fun _ _ _ _ => ⟨?_, qd_rel G hK hq⟩)⟩⟩))
      refine qd_ff_ext _ _ (fun j hj => ?_)
      rw [qd_ho_c h0, hr j (by omega)]
    · refine br_t (qd_c0_0 h0) ⟨64 - i + 1, qy_from_l G (64 - i) i (by omega) _ _ _ _ (fun _ _ _ _ => ⟨?_, qd_rel G hK hq⟩)⟩
      exact qd_ff_n (qd_ho_n h0) _ _
end
section
/-! depends, keep, impliesKept, agreeing -/
def qd_dx (f : Nat → Bool) (b : Nat) : Nat → Bool
  | 0 => false
  | n + 1 => qd_dx f b n || (f n != f (n ^^^ 2 ^ b))
theorem qd_dx_t {f : Nat → Bool} {b : Nat} : ∀ {n : Nat}, qd_dx f b n = true ↔ ∃ i, i < n ∧ f i ≠ f (i ^^^ 2 ^ b)
  | 0 => ⟨fun h => absurd h Bool.false_ne_true, fun ⟨i, hi, _⟩ => absurd hi (by omega)⟩
  | n + 1 => by
    unfold qd_dx
    rw [Bool.or_eq_true, qd_dx_t (n := n), bne_iff_ne]
    constructor
    · rintro (⟨i, hi, h⟩ | h)
      · exact ⟨i, by omega, h⟩
      · exact ⟨n, by omega, h⟩
    · rintro ⟨i, hi, h⟩
      by_cases e : i = n
      · subst e; exact Or.inr h
      · exact Or.inl ⟨i, by omega, h⟩
theorem qd_x1 : ∀ b, b < 6 → ∀ i, i < 64 → i ^^^ 2 ^ b < 64 ∧ (i ^^^ 2 ^ b) ^^^ 2 ^ b = i := by decide +kernel
theorem qd_x3 : ∀ b, b < 6 → ∀ i, i < 64 → i / 2 ^ b % 2 = 1 → ¬ (i ^^^ 2 ^ b) / 2 ^ b % 2 = 1 := by decide +kernel
theorem qd_x4 : ∀ b, b < 6 → ∀ i, i < 64 → ¬ i / 2 ^ b % 2 = 1 → 2 ^ b + i = i ^^^ 2 ^ b ∧ (i ^^^ 2 ^ b) / 2 ^ b % 2 = 1 := by decide +kernel
theorem qd_x5 : ∀ b, b < 6 → ∀ i, i < 64 → i / 2 ^ b % 2 = 1 → 2 ^ b + i < 64 → ¬ (2 ^ b + i) / 2 ^ b % 2 = 1 := by decide +kernel
theorem qd_x64 (b : Nat) (hb : b < 6) (i : Nat) (hi : i < 64) : i ^^^ 2 ^ b < 64 ∧ (i ^^^ 2 ^ b) ^^^ 2 ^ b = i ∧ (i / 2 ^ b % 2 = 1 → (i ^^^ 2 ^ b) / 2 ^ b % 2 ≠ 1) ∧ (i / 2 ^ b % 2 ≠ 1 → 2 ^ b + i = i ^^^ 2 ^ b ∧ (i ^^^ 2 ^ b) / 2 ^ b % 2 = 1) ∧ (i / 2 ^ b % 2 = 1 → 2 ^ b + i < 64 → (2 ^ b + i) / 2 ^ b % 2 ≠ 1) :=
  ⟨(qd_x1 b hb i hi).1, (qd_x1 b hb i hi).2, qd_x3 b hb i hi, qd_x4 b hb i hi, qd_x5 b hb i hi⟩
theorem qd_p64 : ∀ b, b < 6 → 2 ^ b < 64 := by decide +kernel
theorem qd_dep {r w : Int64} {f : Nat → Bool} {b : Nat} (hb : b < 6) (hr : ∀ i, i < 64 → qd_lb r i = f i) (hw : ∀ i, i < 64 → qd_lb w i = decide (i / 2 ^ b % 2 = 1)) : ((r &&& w).toUInt64 >>> (((1 : Int32) <<< (nI b &&& 31)).toInt64.toUInt64 &&& Int64.toUInt64 63)).toInt64 = r &&& (w ^^^ (-1)) ↔ qd_dx f b 64 = false := by
  rw [qd_t_p b hb]
  have p64 := qd_p64 b hb
  have L : ∀ i, qd_lb ((r &&& w).toUInt64 >>> ((nI (2 ^ b)).toInt64.toUInt64 &&& Int64.toUInt64 63)).toInt64 i = (qd_lb r (2 ^ b + i) && qd_lb w (2 ^ b + i)) := by
    intro i
    rw [qd_lb_ushr _ p64, qd_lb_and]
  constructor
  · intro h
    apply ts_nt
    intro z
    obtain ⟨i, hi, n⟩ := qd_dx_t.mp z
    have main : ∀ j, j < 64 → j / 2 ^ b % 2 ≠ 1 → f j = f (j ^^^ 2 ^ b) := by
      intro j hj hn
      obtain ⟨x1, _, _, x4, _⟩ := qd_x64 b hb j hj
      obtain ⟨y1, y2⟩ := x4 hn
      have t := L j
      rw [h, qd_lb_and, qd_lb_not _ hj, hw j hj, hr j hj, y1, hr _ x1, hw _ x1, decide_eq_false hn, decide_eq_true y2, Bool.not_false, Bool.and_true, Bool.and_true] at t
      exact t
    by_cases c : i / 2 ^ b % 2 = 1
    · obtain ⟨x1, x2, x3, _, _⟩ := qd_x64 b hb i hi
      have t := main _ x1 (x3 c)
      rw [x2] at t
      exact n t.symm
    · exact n (main i hi c)
  · intro h
    have main : ∀ j, j < 64 → f j = f (j ^^^ 2 ^ b) := by
      intro j hj
      apply Classical.byContradiction
      intro n
      rw [qd_dx_t.mpr ⟨j, hj, n⟩] at h
      exact absurd h (by decide)
    apply qd_lb_ext
    intro j hj
    obtain ⟨x1, _, _, x4, x5⟩ := qd_x64 b hb j hj
    rw [L, qd_lb_and, qd_lb_not _ hj, hw j hj, hr j hj]
    by_cases c : j / 2 ^ b % 2 = 1
    · rw [decide_eq_true c, Bool.not_true, Bool.and_false]
      rcases Nat.lt_or_ge (2 ^ b + j) 64 with z | z
      · rw [hw _ z, decide_eq_false (x5 c z), Bool.and_false]
      · rw [qd_lb_big z, Bool.false_and]
    · obtain ⟨y1, y2⟩ := x4 c
      rw [y1, hr _ x1, hw _ x1, decide_eq_true y2, decide_eq_false c, Bool.not_false, Bool.and_true, Bool.and_true]
      exact (main j hj).symm
theorem qy_dep_l {post : Int32 → SY → Prop} {T : Nat → Nat} {s b : Nat} (G : qd_G T s) (hb : b < 6) {K : Int32} {q : Nat → Int32} (h : ∀ W' a' o' pa', post (qd_bI (qd_dx (qd_ho T s) b 64)) (nI s, W', K, qd_t T, a', o', pa', q)) : ∀ p k, k + p = 64 → ∀ W a o pa, wY_depends_4 post (nI b) (p + 1) (qd_bI (qd_dx (qd_ho T s) b k)) (nI k) (nI s) W K (qd_t T) a o pa q := by
  intro p
  induction p with
  | zero =>
    intro k hk W a o pa
    have e : k = 64 := by omega
    subst e
    exact br_t (by decide) ⟨qy_bI _, h _ _ _ _⟩
  | succ p ih =>
    intro k hk W a o pa
    have r := ih (k + 1) (by omega)
    unfold qd_dx at r
    obtain ⟨x1, _⟩ := qd_x64 b hb k (by omega)
    refine br_f (nI_ge (b := 64) (by omega) (by decide)) (br_f (nI_pos (by omega)) (br_f (nI_nlt (a := 5) (by omega) (by decide)) ?_))
    rw [qd_t_p b hb, nx_xor]
    refine nm_e (qd_bI_br (fun z => ?_) (fun z => ?_))
    · rw [z] at r
      refine qy_holds G (by omega) (fun W1 a1 o1 p1 => qy_holds G x1 (fun W2 a2 o2 p2 => ?_))
      have r' := r W2 a2 o2 p2
      revert r'
      cases qd_ho T s k <;> cases qd_ho T s (k ^^^ 2 ^ b) <;> intro r'
      · exact br_t rfl (nm_r (nI_1 k) r')
      · exact br_f (by decide) (nm_r (nI_1 k) r')
      · exact br_f (by decide) (nm_r (nI_1 k) r')
      · exact br_t rfl (nm_r (nI_1 k) r')
    · rw [z] at r
      exact nm_r (nI_1 k) (r _ _ _ _)
theorem qy_dep_out {post : Int32 → SY → Prop} {x : Int32} (hx : x < 0 ∨ (6 : Int32) ≤ x ∧ (5 : Int32) < x) {S W K : Int32} {t a o pa q : Nat → Int32} (h : post 0 (S, W, K, t, a, o, pa, q)) : wpY_depends post (S, W, K, t, a, o, pa, q) x :=
  ⟨1, br_f (by decide) (br_c (fun _ => ⟨qy_b0.1, h⟩) (fun z => br_t (hx.resolve_left z).2 ⟨qy_b0.1, h⟩))⟩
theorem qd_bit (x : Int32) : (x < 0 ∨ (6 : Int32) ≤ x ∧ (5 : Int32) < x) ∨ ∃ i, i < 6 ∧ x = nI i := by
  by_cases h : x < 0
  · exact Or.inl (Or.inl h)
  · obtain ⟨j, hj, rfl⟩ := nI_of h
    rcases Nat.lt_or_ge j 6 with z | z
    · exact Or.inr ⟨j, z, rfl⟩
    · exact Or.inl (Or.inr ⟨nI_le (a := 6) z hj, nI_lt (a := 5) (by omega) hj⟩)
theorem qd_dx_n {f : Nat → Bool} {b : Nat} (h : ∀ i, f i = false) (n : Nat) : qd_dx f b n = false := by
  apply ts_nt
  intro z
  obtain ⟨i, _, c⟩ := qd_dx_t.mp z
  exact c (by rw [h, h])
theorem qd_dx_ext {f g : Nat → Bool} {b : Nat} (h : ∀ i, f i = g i) (n : Nat) : qd_dx f b n = qd_dx g b n := by
  rw [show f = g from funext h]
theorem i_vc_depends {k : Nat} {u : SX} {v : SY} (I : i_Rel k u v) (hk : k + 2 ≤ 1024) (v1 : Int32) : wpX_depends (fun r u' => wpY_depends (fun r' v' => r' = r ∧ i_Rel (k + 2) u' v') v v1) u v1 := by
  obtain ⟨T, s, K, L, d, o, e, m, W, a, o2, pa, q, rfl, rfl, G, hK, hq⟩ := I
  unfold wpX_depends
  rcases qd_bit v1 with hx | ⟨b, hb, rfl⟩
  · exact br_c (fun _ => qy_dep_out hx ⟨rfl, qd_rel G hK hq⟩) (fun z => br_t (hx.resolve_left z).1 (qy_dep_out hx ⟨rfl, qd_rel G hK hq⟩))
  · refine br_f (nI_pos (by omega)) (br_f (nI_ge (b := 6) hb (by decide)) (qx_complete G ?_))
    by_cases h0 : qd_op T s = 0
    · refine br_f (by rw [qd_c0_1 h0]; decide) (qx_models G h0 (fun r d' o' e' m' hr => qx_with hb (fun w hw => nm_e (nm_e ?_))))
      have key := qd_dep hb hr hw
      rw [qd_dx_ext (g := qd_ho T s) (fun i => (qd_ho_c h0 i).symm)] at key
      refine br_c (fun z => ⟨65, qy_dep_l G hb (fun _ _ _ _ => ⟨?_, qd_rel G hK hq⟩) 64 0 (by omega) _ _ _ _⟩) (fun z => ⟨65, qy_dep_l G hb (fun _ _ _ _ => ⟨?_, qd_rel G hK hq⟩) 64 0 (by omega) _ _ _ _⟩)
      · rw [key.mp z]; rfl
      · rw [ts_nf (fun y => z (key.mpr y))]; rfl
    · refine br_t (qd_c0_0 h0) ⟨65, qy_dep_l G hb (fun _ _ _ _ => ⟨?_, qd_rel G hK hq⟩) 64 0 (by omega) _ _ _ _⟩
      rw [qd_dx_n (qd_ho_n h0)]
      rfl
/-! keep -/
theorem qy_keep_l {post : Int32 → SY → Prop} {T : Nat → Nat} {s : Nat} (G : qd_G T s) (h0 : qd_op T s = 0) {W K : Int32} {a o : Nat → Int32} (ha : ∀ j, j < s → a j = nI (qd_D T j)) (h : ∀ pa' q', (∀ i, i < 64 → q' i = qd_bI (qd_tr T s i)) → post 1 (nI s, W, K, qd_t T, a, o, pa', q')) : ∀ p k, k + p = 64 → ∀ pa q, (∀ i, i < k → q i = qd_bI (qd_tr T s i)) → wY_keep_16 post (p + 1) (nI k) (nI s) W K (qd_t T) a o pa q := by
  intro p
  induction p with
  | zero =>
    intro k hk pa q hq
    have e : k = 64 := by omega
    subst e
    exact br_t (by decide) (h pa q hq)
  | succ p ih =>
    intro k hk pa q hq
    refine br_f (nI_ge (b := 64) (by omega) (by decide)) (qy_truth G h0 ha (fun pa' => ⟨vp_in_nI (by omega) (by omega), ?_⟩))
    rw [nI_clamp (by omega), qy_nb]
    refine nm_e (nm_r (nI_1 k) (ih (k + 1) (by omega) _ _ (fun i hi => ?_)))
    by_cases e : i = k
    · subst e; exact pk_us
    · rw [pk_un e]; exact hq i (by omega)
theorem i_vc_keep {k : Nat} {u : SX} {v : SY} (I : i_Rel k u v) (hk : k + 2 ≤ 1024) : wpX_keep (fun r u' => wpY_keep (fun r' v' => r' = r ∧ i_Rel (k + 2) u' v') v) u := by
  obtain ⟨T, s, K, L, d, o, e, m, W, a, o2, pa, q, rfl, rfl, G, hK, hq⟩ := I
  unfold wpX_keep
  refine qx_complete G ?_
  by_cases h0 : qd_op T s = 0
  · refine br_f (by rw [qd_c0_1 h0]; decide) (qx_models G h0 (fun r d' o' e' m' hr => ?_))
    unfold wpY_keep
    refine qy_complete G (fun a' o' ha => br_f (by rw [qd_c0_1 h0]; decide) ⟨65, qy_keep_l G h0 ha (fun pa' q' hq' => ⟨rfl, qd_rel G (Or.inr rfl) (fun i hi => ?_)⟩) 64 0 (by omega) pa q (fun i hi => absurd hi (by omega))⟩)
    rw [hq' i hi, hr i hi]
  · refine br_t (qd_c0_0 h0) ?_
    unfold wpY_keep
    exact qy_complete G (fun a' o' ha => br_t (qd_c0_0 h0) ⟨rfl, qd_rel G hK hq⟩)
/-! impliesKept -/
def qd_al (f : Nat → Bool) : Nat → Bool
  | 0 => true
  | n + 1 => qd_al f n && f n
theorem qd_al_t {f : Nat → Bool} : ∀ {n : Nat}, qd_al f n = true ↔ ∀ i, i < n → f i = true
  | 0 => ⟨fun _ i hi => absurd hi (by omega), fun _ => rfl⟩
  | n + 1 => by
    unfold qd_al
    rw [Bool.and_eq_true, qd_al_t (n := n)]
    constructor
    · rintro ⟨h1, h2⟩ i hi
      by_cases e : i = n
      · subst e; exact h2
      · exact h1 i (by omega)
    · intro h
      exact ⟨fun i hi => h i (by omega), h n (by omega)⟩
theorem qy_imp_l {post : Int32 → SY → Prop} {T : Nat → Nat} {s : Nat} (G : qd_G T s) (h0 : qd_op T s = 0) {W K : Int32} {L : Int64} {a o q : Nat → Int32} (ha : ∀ j, j < s → a j = nI (qd_D T j)) (hq : ∀ i, i < 64 → q i = qd_bI (qd_lb L i)) (h : ∀ pa', post (qd_bI (qd_al (fun i => qd_lb L i || !qd_tr T s i) 64)) (nI s, W, K, qd_t T, a, o, pa', q)) : ∀ p k, k + p = 64 → ∀ pa, wY_impliesKept_22 post (p + 1) (qd_bI (qd_al (fun i => qd_lb L i || !qd_tr T s i) k)) (nI k) (nI s) W K (qd_t T) a o pa q := by
  intro p
  induction p with
  | zero =>
    intro k hk pa
    have e : k = 64 := by omega
    subst e
    exact br_t (by decide) ⟨qy_bI _, h _⟩
  | succ p ih =>
    intro k hk pa
    have r := ih (k + 1) (by omega)
    unfold qd_al at r
    refine br_f (nI_ge (b := 64) (by omega) (by decide)) (qd_bI_br (fun z => ?_) (fun z => ⟨vp_in_nI (by omega) (by omega), ?_⟩))
    · refine ⟨qy_bI _, ?_⟩
      have c : qd_al (fun i => qd_lb L i || !qd_tr T s i) 64 = false := by
        apply ts_nt
        intro y
        have y' := qd_al_t.mp y
        rw [qd_al_t.mpr (fun i hi => y' i (by omega))] at z
        exact absurd z (by decide)
      have t := h pa
      rw [c] at t
      rw [z]
      exact t
    · rw [z] at r
      rw [nI_clamp (by omega), hq k (by omega)]
      refine qd_bI_br (fun y => qy_truth G h0 ha (fun pa' => qd_bI_br (fun x => ?_) (fun x => ?_))) (fun y => ?_)
      · have r' := r pa'
        simp only [y, x] at r'
        exact nm_r (nI_1 k) r'
      · have r' := r pa'
        simp only [y, x] at r'
        exact nm_r (nI_1 k) r'
      · have r' := r pa
        simp only [y] at r'
        exact nm_r (nI_1 k) r'
theorem qy_imp_0 {post : Int32 → SY → Prop} {S W K : Int32} {t a o pa q : Nat → Int32} (h : post 0 (S, W, K, t, a, o, pa, q)) : ∃ n, wY_impliesKept_22 post n 0 0 S W K t a o pa q :=
  ⟨1, br_f (by decide) (br_t rfl ⟨qy_b0.1, h⟩)⟩
theorem qd_imp {r L : Int64} {f : Nat → Bool} (hr : ∀ i, i < 64 → qd_lb r i = f i) : r &&& (L ^^^ (-1)) = 0 ↔ qd_al (fun i => qd_lb L i || !f i) 64 = true := by
  rw [qd_al_t]
  constructor
  · intro h i hi
    have t := congrArg (fun x => qd_lb x i) h
    simp only [qd_lb_and, qd_lb_not _ hi, qd_lb_0, hr i hi] at t
    show (qd_lb L i || !f i) = true
    revert t
    cases qd_lb L i <;> cases f i <;> decide
  · intro h
    apply qd_lb_ext
    intro i hi
    have t : (qd_lb L i || !f i) = true := h i hi
    rw [qd_lb_and, qd_lb_not _ hi, qd_lb_0, hr i hi]
    revert t
    cases qd_lb L i <;> cases f i <;> decide
theorem i_vc_impliesKept {k : Nat} {u : SX} {v : SY} (I : i_Rel k u v) (hk : k + 2 ≤ 1024) : wpX_impliesKept (fun r u' => wpY_impliesKept (fun r' v' => r' = r ∧ i_Rel (k + 2) u' v') v) u := by
  obtain ⟨T, s, K, L, d, o, e, m, W, a, o2, pa, q, rfl, rfl, G, hK, hq⟩ := I
  unfold wpX_impliesKept
  rcases hK with hK | hK
  · subst hK
    refine br_t rfl ?_
    unfold wpY_impliesKept
    exact qy_complete G (fun a' o' ha => br_c (fun _ => qy_imp_0 ⟨rfl, qd_rel G (Or.inl rfl) hq⟩) (fun _ => br_t rfl (qy_imp_0 ⟨rfl, qd_rel G (Or.inl rfl) hq⟩)))
  · subst hK
    refine br_f (by decide) (qx_complete G ?_)
    by_cases h0 : qd_op T s = 0
    · refine br_f (by rw [qd_c0_1 h0]; decide) (qx_models G h0 (fun r d' o' e' m' hr => ?_))
      have key := qd_imp (L := L) hr
      have fin : ∀ u' x, (∀ W' a' o' pa', i_Rel (k + 2) u' (nI s, W', 1, qd_t T, a', o', pa', q)) → (x = qd_bI (qd_al (fun i => qd_lb L i || !qd_tr T s i) 64)) → wpY_impliesKept (fun r' v' => r' = x ∧ i_Rel (k + 2) u' v') (nI s, W, 1, qd_t T, a, o2, pa, q) := by
        intro u' x hu hx
        unfold wpY_impliesKept
        exact qy_complete G (fun a' o' ha => br_f (by rw [qd_c0_1 h0]; decide) (br_f (by decide) ⟨65, qy_imp_l G h0 ha hq (fun pa' => ⟨hx.symm, hu _ _ _ _⟩) 64 0 (by omega) pa⟩))
      refine br_c (fun z => fin _ _ (fun _ _ _ _ => qd_rel G (Or.inr rfl) hq) ?_) (fun z => fin _ _ (fun _ _ _ _ => qd_rel G (Or.inr rfl) hq) ?_)
      · rw [key.mp z]; rfl
      · rw [ts_nt (fun y => z (key.mpr y))]; rfl
    · refine br_t (qd_c0_0 h0) ?_
      unfold wpY_impliesKept
      exact qy_complete G (fun a' o' ha => br_t (qd_c0_0 h0) (qy_imp_0 ⟨rfl, qd_rel G (Or.inr rfl) hq⟩))
/-! agreeing -/
theorem qy_agr_l {post : Int32 → SY → Prop} {T : Nat → Nat} {s : Nat} (G : qd_G T s) (h0 : qd_op T s = 0) {W K : Int32} {L : Int64} {a o q : Nat → Int32} (ha : ∀ j, j < s → a j = nI (qd_D T j)) (hq : ∀ i, i < 64 → q i = qd_bI (qd_lb L i)) (h : ∀ pa', post (nI (qd_cn (fun i => qd_tr T s i == qd_lb L i) 64)) (nI s, W, K, qd_t T, a, o, pa', q)) : ∀ p k, k + p = 64 → ∀ pa, wY_agreeing_20 post (p + 1) (nI (qd_cn (fun i => qd_tr T s i == qd_lb L i) k)) (nI k) (nI s) W K (qd_t T) a o pa q := by
  intro p
  induction p with
  | zero =>
    intro k hk pa
    have e : k = 64 := by omega
    subst e
    exact br_t (by decide) (h pa)
  | succ p ih =>
    intro k hk pa
    refine br_f (nI_ge (b := 64) (by omega) (by decide)) (qy_truth G h0 ha (fun pa' => ⟨vp_in_nI (by omega) (by omega), ?_⟩))
    rw [nI_clamp (by omega), hq k (by omega)]
    have r := ih (k + 1) (by omega) pa'
    unfold qd_cn at r
    revert r
    cases e1 : qd_tr T s k <;> cases e2 : qd_lb L k <;> intro r
    · exact br_t rfl (nm_r (nI_1 _) (nm_r (nI_1 k) r))
    · exact br_f (by decide) (nm_r (Int32.add_zero _) (nm_r (nI_1 k) r))
    · exact br_f (by decide) (nm_r (Int32.add_zero _) (nm_r (nI_1 k) r))
    · exact br_t rfl (nm_r (nI_1 _) (nm_r (nI_1 k) r))
theorem i_vc_agreeing {k : Nat} {u : SX} {v : SY} (I : i_Rel k u v) (hk : k + 2 ≤ 1024) : wpX_agreeing (fun r u' => wpY_agreeing (fun r' v' => r' = r ∧ i_Rel (k + 2) u' v') v) u := by
  obtain ⟨T, s, K, L, d, o, e, m, W, a, o2, pa, q, rfl, rfl, G, hK, hq⟩ := I
  unfold wpX_agreeing
  rcases hK with hK | hK
  · subst hK
    refine br_t rfl ?_
    unfold wpY_agreeing
    exact qy_complete G (fun a' o' ha => br_c (fun _ => ⟨rfl, qd_rel G (Or.inl rfl) hq⟩) (fun _ => br_t rfl ⟨rfl, qd_rel G (Or.inl rfl) hq⟩))
  · subst hK
    refine br_f (by decide) (qx_complete G ?_)
    by_cases h0 : qd_op T s = 0
    · refine br_f (by rw [qd_c0_1 h0]; decide) (qx_models G h0 (fun r d' o' e' m' hr => nm_e (qx_count ?_)))
      unfold wpY_agreeing
      refine qy_complete G (fun a' o' ha => br_f (by rw [qd_c0_1 h0]; decide) (br_f (by decide) ⟨65, qy_agr_l G h0 ha hq (fun pa' => ⟨congrArg nI ?_, qd_rel G (Or.inr rfl) hq⟩) 64 0 (by omega) pa⟩))
      refine qd_cn_ext (fun i hi => ?_)
      rw [qd_lb_not _ hi, qd_lb_xor, hr i hi]
      cases qd_tr T s i <;> cases qd_lb L i <;> rfl
    · refine br_t (qd_c0_0 h0) ?_
      unfold wpY_agreeing
      exact qy_complete G (fun a' o' ha => br_t (qd_c0_0 h0) ⟨rfl, qd_rel G (Or.inr rfl) hq⟩)
end
