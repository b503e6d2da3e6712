/-! numbers, bits and arrays -/
theorem sw_or (a b : Nat) : nI a ||| nI b = nI (a ||| b) := by
  apply Int32.toBitVec_inj.1
  show BitVec.ofNat 32 a ||| BitVec.ofNat 32 b = BitVec.ofNat 32 (a ||| b)
  apply BitVec.eq_of_getLsbD_eq
  intro i hi
  simp [hi]
def sw_na (a : Nat → Nat) : Nat → Int32 := fun s => nI (a s)
theorem sw_at (a : Nat → Nat) {i : Nat} (h : i < 2 ^ 31) : sw_na a (nI i).toNatClampNeg = nI (a i) := by
  unfold sw_na; rw [nI_clamp h]
def sw_up (a : Nat → Nat) (j m : Nat) : Nat → Nat := fun s => if s = j then m else a s
theorem sw_upd (a : Nat → Nat) {j : Nat} (h : j < 2 ^ 31) (m : Nat) : upd (sw_na a) (nI j).toNatClampNeg (nI m) = sw_na (sw_up a j m) := by
  rw [nI_clamp h]
  funext s
  unfold upd sw_na sw_up
  split <;> rfl
theorem sw_bitN (x i : Nat) : x / 2 ^ i % 2 = if x.testBit i = true then 1 else 0 := by
  rw [Nat.testBit_eq_decide_div_mod_eq]
  by_cases h : x / 2 ^ i % 2 = 1
  · simp [h]
  · simp [h]; omega
theorem sw_bitI {x i : Nat} (hx : x < 2 ^ 31) (hi : i < 32) : (nI x >>> (nI i &&& 31)) &&& 1 = nI (if x.testBit i = true then 1 else 0) := by
  rw [pk_shrN hx _ i (s_l i hi), ← sw_bitN]
  exact pk_andN (Nat.lt_of_le_of_lt (Nat.div_le_self _ _) (by omega)) 1 (by decide)
theorem sw_b1 {x i : Nat} (hx : x < 2 ^ 31) (hi : i < 32) (h : x.testBit i = true) : (nI x >>> (nI i &&& 31)) &&& 1 = 1 := by
  rw [sw_bitI hx hi, if_pos h]; rfl
theorem sw_b0 {x i : Nat} (hx : x < 2 ^ 31) (hi : i < 32) (h : x.testBit i = false) : (nI x >>> (nI i &&& 31)) &&& 1 = 0 := by
  rw [sw_bitI hx hi, h]; rfl
theorem sw_bn1 {x i : Nat} (hx : x < 2 ^ 31) (hi : i < 32) (h : x.testBit i = false) : ¬ (nI x >>> (nI i &&& 31)) &&& 1 = 1 := by
  rw [sw_b0 hx hi h]; decide
theorem sw_bn0 {x i : Nat} (hx : x < 2 ^ 31) (hi : i < 32) (h : x.testBit i = true) : ¬ (nI x >>> (nI i &&& 31)) &&& 1 = 0 := by
  rw [sw_b1 hx hi h]; decide
theorem sw_shl : ∀ j, j < 31 → (1 : Int32) <<< (nI j &&& 31) = nI (2 ^ j) := by decide +kernel
theorem sw_notI : ∀ m, m < 1024 → nI 1023 &&& (nI m ^^^ (-1)) = nI (1023 ^^^ m) := by decide +kernel
theorem sw_and1023 {x : Nat} (hx : x < 1024) : x &&& 1023 = x := by
  have h := Nat.and_two_pow_sub_one_eq_mod x 10
  rw [show (2 ^ 10 - 1 : Nat) = 1023 from rfl] at h
  rw [h]; exact Nat.mod_eq_of_lt hx
theorem sw_andn {x m : Nat} (hx : x < 1024) (hm : m < 1024) : nI x &&& (nI m ^^^ (-1)) = nI (x &&& (1023 ^^^ m)) := by
  have e : nI x = nI x &&& nI 1023 := by rw [nx_and, sw_and1023 hx]
  rw [e, Int32.and_assoc, sw_notI m hm, nx_and]
/-- x within m, for sets below 1024 -/
def sw_sub (x m : Nat) : Prop := ∀ i, x.testBit i = true → m.testBit i = true
theorem sw_hi {x i : Nat} (hx : x < 1024) (hi : 10 ≤ i) : x.testBit i = false :=
  Nat.testBit_lt_two_pow (Nat.lt_of_lt_of_le hx (show 2 ^ 10 ≤ 2 ^ i from Nat.pow_le_pow_right (by decide) hi))
theorem sw_lo {x i : Nat} (hx : x < 1024) (h : x.testBit i = true) : i < 10 := by
  rcases Nat.lt_or_ge i 10 with g | g
  · exact g
  · rw [sw_hi hx g] at h; exact absurd h (by decide)
theorem sw_1023 : ∀ i, i < 10 → (1023 : Nat).testBit i = true := by decide
theorem sw_ext {x y : Nat} (hx : x < 1024) (hy : y < 1024) (h : ∀ i, i < 10 → x.testBit i = y.testBit i) : x = y := by
  apply Nat.eq_of_testBit_eq
  intro i
  rcases Nat.lt_or_ge i 10 with g | g
  · exact h i g
  · rw [sw_hi hx g, sw_hi hy g]
theorem sw_subN {x m : Nat} (hx : x < 1024) : x &&& (1023 ^^^ m) = 0 ↔ sw_sub x m := by
  constructor
  · intro h i hi
    have g := congrArg (fun y => Nat.testBit y i) h
    simp only [Nat.testBit_and, Nat.testBit_xor, Nat.zero_testBit, hi, sw_1023 i (sw_lo hx hi)] at g
    cases hm : m.testBit i with
    | true => rfl
    | false => rw [hm] at g; exact absurd g (by decide)
  · intro h
    apply Nat.eq_of_testBit_eq
    intro i
    rw [Nat.testBit_and, Nat.testBit_xor, Nat.zero_testBit]
    cases hi : x.testBit i with
    | true => rw [h i hi, sw_1023 i (sw_lo hx hi)]; rfl
    | false => rfl
theorem sw_and_lt {x m : Nat} (hx : x < 1024) : x &&& m < 1024 := Nat.lt_of_le_of_lt Nat.and_le_left hx
theorem sw_or_lt {x m : Nat} (hx : x < 1024) (hm : m < 1024) : x ||| m < 1024 := Nat.or_lt_two_pow (n := 10) hx hm
theorem sw_xor_lt {x m : Nat} (hx : x < 1024) (hm : m < 1024) : x ^^^ m < 1024 := Nat.xor_lt_two_pow (n := 10) hx hm
theorem sw_or64 {x m : Nat} (hx : x < 64) (hm : m < 64) : x ||| m < 64 := Nat.or_lt_two_pow (n := 6) hx hm
theorem sw_xor64 {x m : Nat} (hx : x < 64) (hm : m < 64) : x ^^^ m < 64 := Nat.xor_lt_two_pow (n := 6) hx hm
theorem sw_p64 : ∀ j, j < 6 → 2 ^ j < 64 := by decide
theorem sw_p1024 : ∀ j, j < 10 → 2 ^ j < 1024 := by decide
theorem sw_pbit (j i : Nat) : (2 ^ j).testBit i = decide (j = i) := Nat.testBit_two_pow
/-- the set without street j -/
def sw_clr (x j : Nat) : Nat := x &&& (1023 ^^^ 2 ^ j)
theorem sw_clr_lt {x j : Nat} (hx : x < 1024) : sw_clr x j < 1024 := sw_and_lt hx
theorem sw_clr_bit {x j i : Nat} (hx : x < 1024) : (sw_clr x j).testBit i = (x.testBit i && !decide (j = i)) := by
  unfold sw_clr
  rw [Nat.testBit_and, Nat.testBit_xor, sw_pbit]
  cases hi : x.testBit i with
  | true => rw [sw_1023 i (sw_lo hx hi)]; cases decide (j = i) <;> rfl
  | false => rfl
theorem sw_clrI {x j : Nat} (hx : x < 1024) (hj : j < 10) : nI x &&& (((1 : Int32) <<< (nI j &&& 31)) ^^^ (-1)) = nI (sw_clr x j) := by
  rw [sw_shl j (by omega), sw_andn hx (sw_p1024 j hj)]; rfl
theorem sw_set_bit (x j i : Nat) : (x ||| 2 ^ j).testBit i = (x.testBit i || decide (j = i)) := by
  rw [Nat.testBit_or, sw_pbit]
theorem sw_setI (x : Nat) {j : Nat} (hj : j < 10) : nI x ||| ((1 : Int32) <<< (nI j &&& 31)) = nI (x ||| 2 ^ j) := by
  rw [sw_shl j (by omega), sw_or]
theorem sw_ne {a b : Nat} (ha : a < 2 ^ 31) (hb : b < 2 ^ 31) (h : a ≠ b) : ¬ nI a = nI b := fun e => h ((nI_eq ha hb).mp e)
theorem sw_nm1 {a : Nat} (ha : a < 2 ^ 31) : ¬ nI a = -1 := by
  intro e
  have h := congrArg Int32.toInt e
  rw [nI_toInt ha, show (-1 : Int32).toInt = -1 from by decide] at h
  omega
theorem sw_e0 {a : Nat} (ha : a < 2 ^ 31) : nI a = 0 ↔ a = 0 := by
  rw [← nI_0, nI_eq ha (by decide)]
/-- the least street of a set -/
def sw_low (d : Nat) : Nat := if d.testBit 0 = true then 0 else if d.testBit 1 = true then 1 else if d.testBit 2 = true then 2 else if d.testBit 3 = true then 3 else if d.testBit 4 = true then 4 else if d.testBit 5 = true then 5 else if d.testBit 6 = true then 6 else if d.testBit 7 = true then 7 else if d.testBit 8 = true then 8 else 9
theorem sw_lowI : ∀ d, d < 1024 → d ≠ 0 → nI d &&& (-nI d) = nI (2 ^ sw_low d) := by decide +kernel
theorem sw_low_bit : ∀ d, d < 1024 → d ≠ 0 → d.testBit (sw_low d) = true := by decide +kernel
theorem sw_low_min : ∀ d, d < 1024 → d ≠ 0 → ∀ i, i < 10 → i < sw_low d → d.testBit i = false := by decide +kernel
