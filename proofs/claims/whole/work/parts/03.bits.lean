/-! longs by their bits, and small tables -/
def qd_lb (x : Int64) (i : Nat) : Bool := x.toBitVec.getLsbD i
theorem qd_lb_ext {x y : Int64} (h : ∀ i, i < 64 → qd_lb x i = qd_lb y i) : x = y := Int64.toBitVec_inj.mp (BitVec.eq_of_getLsbD_eq (fun i hi => h i hi))
theorem qd_lb_or (x y : Int64) (i : Nat) : qd_lb (x ||| y) i = (qd_lb x i || qd_lb y i) := by unfold qd_lb; rw [Int64.toBitVec_or, BitVec.getLsbD_or]
theorem qd_lb_and (x y : Int64) (i : Nat) : qd_lb (x &&& y) i = (qd_lb x i && qd_lb y i) := by unfold qd_lb; rw [Int64.toBitVec_and, BitVec.getLsbD_and]
theorem qd_lb_xor (x y : Int64) (i : Nat) : qd_lb (x ^^^ y) i = (qd_lb x i ^^ qd_lb y i) := by unfold qd_lb; rw [Int64.toBitVec_xor, BitVec.getLsbD_xor]
theorem qd_lb_m1 : ∀ i, i < 64 → qd_lb (-1) i = true := by decide +kernel
theorem qd_lb_0 (i : Nat) : qd_lb 0 i = false := BitVec.getLsbD_zero
theorem qd_lb_not (x : Int64) {i : Nat} (h : i < 64) : qd_lb (x ^^^ (-1)) i = !qd_lb x i := by
  rw [qd_lb_xor, qd_lb_m1 i h, Bool.xor_true]
theorem qd_lb_big {x : Int64} {i : Nat} (h : 64 ≤ i) : qd_lb x i = false := BitVec.getLsbD_of_ge _ _ h
theorem qd_lb_one : ∀ k, k < 64 → ((1 : Int64) <<< ((nI k).toInt64 &&& 63)).toBitVec = BitVec.twoPow 64 k := by decide +kernel
theorem qd_lb_shl {k i : Nat} (hk : k < 64) (hi : i < 64) : qd_lb ((1 : Int64) <<< ((nI k).toInt64 &&& 63)) i = decide (i = k) := by
  unfold qd_lb
  rw [qd_lb_one k hk, BitVec.getLsbD_twoPow]
  by_cases e : k = i
  · subst e; simp [hk]
  · rw [decide_eq_false e, Bool.and_false, decide_eq_false (fun z : i = k => e z.symm)]
theorem qd_lb_ushr (x : Int64) {k : Nat} (hk : k < 64) (i : Nat) : qd_lb (x.toUInt64 >>> ((nI k).toInt64.toUInt64 &&& Int64.toUInt64 63)).toInt64 i = qd_lb x (k + i) := by
  rw [wb_cu k hk]
  have h1 : (UInt64.ofNat k).toNat = k := by
    show (BitVec.ofNat 64 k).toNat = k
    rw [BitVec.toNat_ofNat, Nat.mod_eq_of_lt (by omega)]
  have e : (x.toUInt64 >>> UInt64.ofNat k).toInt64.toBitVec = x.toBitVec >>> k := by
    apply BitVec.eq_of_toNat_eq
    show (x.toUInt64 >>> UInt64.ofNat k).toNat = _
    rw [UInt64.toNat_shiftRight, h1, Nat.mod_eq_of_lt hk, BitVec.toNat_ushiftRight]
    rfl
  unfold qd_lb
  rw [e, BitVec.getLsbD_ushiftRight]
theorem qd_lb_1 (i : Nat) : qd_lb 1 i = decide (i = 0) := by
  rcases Nat.lt_or_ge i 64 with h | h
  · exact (by decide +kernel : ∀ i, i < 64 → qd_lb 1 i = decide (i = 0)) i h
  · rw [qd_lb_big h, decide_eq_false (by omega)]
theorem qd_lb_c (x : Int64) {i : Nat} (hi : i < 64) : (((x.toUInt64 >>> ((nI i).toInt64.toUInt64 &&& Int64.toUInt64 63)).toInt64) &&& 1) = 1 ↔ qd_lb x i = true := by
  constructor
  · intro h
    have t := congrArg (fun y => qd_lb y 0) h
    simp only [qd_lb_and, qd_lb_ushr x hi, qd_lb_1] at t
    simpa using t
  · intro h
    apply qd_lb_ext
    intro j hj
    rw [qd_lb_and, qd_lb_ushr x hi, qd_lb_1]
    by_cases e : j = 0
    · subst e; rw [Nat.add_zero, h]; rfl
    · rw [decide_eq_false e, Bool.and_false]
theorem qd_bit1 (x : Int32) : x &&& 1 = 1 ↔ bt x 0 = true := by
  have o : ∀ j, j < 32 → bt 1 j = decide (j = 0) := by decide +kernel
  constructor
  · intro h
    have t := congrArg (fun y => bt y 0) h
    simp only [b_and, o 0 (by decide)] at t
    simpa using t
  · intro h
    apply b_ext
    intro j hj
    rw [b_and, o j hj]
    by_cases e : j = 0
    · subst e; rw [h]; rfl
    · rw [decide_eq_false e, Bool.and_false]
/-- one bit of x as a number -/
def qd_bI (b : Bool) : Int32 := if b then 1 else 0
theorem qd_b1 (x : Int32) {k : Nat} (hk : k < 32) : (x >>> (nI k &&& 31)) &&& 1 = qd_bI (bt x k) := by
  have o : ∀ j, j < 32 → bt 1 j = decide (j = 0) := by decide +kernel
  apply b_ext
  intro j hj
  rw [b_and, o j hj, b_sshr k hk x hj]
  by_cases e : j = 0
  · subst e
    rw [Nat.add_zero, if_pos hk, decide_eq_true rfl, Bool.and_true]
    cases bt x k <;> decide
  · rw [decide_eq_false e, Bool.and_false]
    cases bt x k
    · exact (b_0 j).symm
    · show _ = bt 1 j
      rw [o j hj, decide_eq_false e]
theorem qd_bt_nI {n k : Nat} (hk : k < 32) : bt (nI n) k = decide (n / 2 ^ k % 2 = 1) := by
  show (BitVec.ofNat 32 n).getLsbD k = _
  rw [BitVec.getLsbD_ofNat, decide_eq_true hk, Bool.true_and, Nat.testBit_eq_decide_div_mod_eq]
theorem qd_bI_nI (n : Nat) : qd_bI (decide (n % 2 = 1)) = nI (n % 2) := by
  rcases Nat.mod_two_eq_zero_or_one n with h | h <;> rw [h] <;> rfl
theorem qd_th {n k : Nat} (hk : k < 32) : (nI n >>> (nI k &&& 31)) &&& 1 = nI (n / 2 ^ k % 2) := by
  rw [qd_b1 _ hk, qd_bt_nI hk, qd_bI_nI]
theorem qd_bt_bI (b : Bool) : bt (qd_bI b) 0 = b := by cases b <;> decide
theorem qd_bt_bIs {b : Bool} {k : Nat} (h : 0 < k) (hk : k < 32) : bt (qd_bI b) k = false := by
  have o : ∀ j, j < 32 → bt 1 j = decide (j = 0) := by decide +kernel
  cases b
  · exact b_0 k
  · show bt 1 k = false
    rw [o k hk, decide_eq_false (by omega)]
theorem qd_bt_sh {b : Bool} {k i : Nat} (hk : k < 32) (hi : i < 32) : bt (qd_bI b <<< (nI k &&& 31)) i = (decide (i = k) && b) := by
  rw [b_shl k hk _ hi]
  rcases Nat.lt_trichotomy i k with h | h | h
  · rw [decide_eq_false (by omega), decide_eq_false (by omega), Bool.false_and, Bool.false_and]
  · subst h
    rw [Nat.sub_self, qd_bt_bI, decide_eq_true (Nat.le_refl _), decide_eq_true rfl]
  · rw [qd_bt_bIs (by omega) (by omega), Bool.and_false, decide_eq_false (by omega), Bool.false_and]
theorem qd_bI_and (a b : Bool) : qd_bI a &&& qd_bI b = qd_bI (a && b) := by cases a <;> cases b <;> decide
theorem qd_bI_or (a b : Bool) : qd_bI a ||| qd_bI b = qd_bI (a || b) := by cases a <;> cases b <;> decide
/-- a choice with a bit cleared, set -/
theorem qd_t_cl : ∀ d, d < 4 → ∀ c, c < 16 → nI c &&& (((1 : Int32) <<< (nI d &&& 31)) ^^^ (-1)) = nI (qd_cl d c) ∧ qd_cl d c < 16 := by decide +kernel
theorem qd_t_se : ∀ d, d < 4 → ∀ c, c < 16 → nI c ||| ((1 : Int32) <<< (nI d &&& 31)) = nI (qd_se d c) ∧ qd_se d c < 16 := by decide +kernel
theorem qd_t_a3 : ∀ d, d < 4 → nI d &&& 3 = nI d := by decide +kernel
theorem qd_t_a15 : ∀ d, d < 16 → nI d &&& 15 = nI d := by decide +kernel
theorem qd_t_ab : ∀ x, x < 26 → ∀ c, c < 16 → qd_ab x c < 6 := by decide +kernel
theorem qd_t_p : ∀ b, b < 6 → (1 : Int32) <<< (nI b &&& 31) = nI (2 ^ b) := by decide +kernel
/-- counting -/
def qd_cn (f : Nat → Bool) : Nat → Nat
  | 0 => 0
  | n + 1 => qd_cn f n + (if f n then 1 else 0)
theorem qd_cn_le (f : Nat → Bool) : ∀ n, qd_cn f n ≤ n
  | 0 => Nat.le_refl 0
  | n + 1 => by
    have a := qd_cn_le f n
    unfold qd_cn
    split <;> omega
theorem qd_cn_ext {f g : Nat → Bool} : ∀ {n : Nat}, (∀ i, i < n → f i = g i) → qd_cn f n = qd_cn g n
  | 0, _ => rfl
  | n + 1, h => by
    have a := qd_cn_ext (f := f) (g := g) (n := n) (fun i hi => h i (by omega))
    unfold qd_cn
    rw [a, h n (by omega)]
theorem qd_cn_all {f : Nat → Bool} : ∀ {n : Nat}, qd_cn f n = n ↔ ∀ i, i < n → f i = true
  | 0 => ⟨fun _ i hi => absurd hi (by omega), fun _ => rfl⟩
  | n + 1 => by
    have a := qd_cn_all (f := f) (n := n)
    have b := qd_cn_le f n
    unfold qd_cn
    constructor
    · intro h
      by_cases e : f n = true
      · rw [if_pos e] at h
        have c := a.mp (by omega)
        intro i hi
        rcases Nat.lt_or_ge i n with z | z
        · exact c i z
        · rw [show i = n by omega]; exact e
      · rw [if_neg e] at h; omega
    · intro h
      rw [a.mpr (fun i hi => h i (by omega)), if_pos (h n (by omega))]
