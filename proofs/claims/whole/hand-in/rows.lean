section
theorem pk_us {f : Nat → Int32} {k : Nat} {x : Int32} : upd f k x k = x := if_pos rfl
theorem pk_un {f : Nat → Int32} {k j : Nat} {x : Int32} (h : j ≠ k) : upd f k x j = f j := if_neg h
theorem pk_sub {a b : Nat} (h : b ≤ a) : nI a - nI b = nI (a - b) := by
  obtain ⟨c, rfl⟩ : ∃ c, a = c + b := ⟨a - b, by omega⟩
  rw [← nI_add, Int32.add_sub_cancel, Nat.add_sub_cancel]
theorem pk_le {x y : Int32} {A B : Prop} (a b : Nat) (f : a ≤ b → A) (g : b < a → B) (hx : x = nI a := by rfl) (hy : y = nI b := by rfl) (ha : a < 2 ^ 31 := by omega) (hb : b < 2 ^ 31 := by omega) : (x ≤ y → A) ∧ (¬ x ≤ y → B) := by
  subst hx hy
  rw [nI_leI ha hb]
  exact ⟨f, fun z => g (by omega)⟩
theorem pk_lt {x y : Int32} {A B : Prop} (a b : Nat) (f : a < b → A) (g : b ≤ a → B) (hx : x = nI a := by rfl) (hy : y = nI b := by rfl) (ha : a < 2 ^ 31 := by omega) (hb : b < 2 ^ 31 := by omega) : (x < y → A) ∧ (¬ x < y → B) := by
  subst hx hy
  rw [nI_ltI ha hb]
  exact ⟨f, fun z => g (by omega)⟩
theorem pk_eq {x y : Int32} {A B : Prop} (a b : Nat) (f : a = b → A) (g : a ≠ b → B) (hx : x = nI a := by rfl) (hy : y = nI b := by rfl) (ha : a < 2 ^ 31 := by omega) (hb : b < 2 ^ 31 := by omega) : (x = y → A) ∧ (¬ x = y → B) := by
  subst hx hy
  rw [nI_eq ha hb]
  exact ⟨f, g⟩
theorem pk_tn {n : Nat} (h : n < 2 ^ 32) : (nI n).toBitVec.toNat = n := Nat.mod_eq_of_lt h
theorem pk_and (x : Int32) {m : Int32} (k : Nat) (hm : m.toBitVec.toNat = 2 ^ k - 1) : x &&& m = nI (x.toBitVec.toNat % 2 ^ k) := by
  apply Int32.toBitVec_inj.mp
  apply BitVec.eq_of_toNat_eq
  rw [Int32.toBitVec_and, BitVec.toNat_and, hm, Nat.and_two_pow_sub_one_eq_mod]
  show _ = (BitVec.ofNat 32 _).toNat
  rw [BitVec.toNat_ofNat]
  exact (Nat.mod_eq_of_lt (Nat.lt_of_le_of_lt (Nat.mod_le _ _) x.toBitVec.isLt)).symm
theorem pk_andN {n : Nat} (h : n < 2 ^ 32) {m : Int32} (k : Nat) (hm : m.toBitVec.toNat = 2 ^ k - 1) : nI n &&& m = nI (n % 2 ^ k) := by
  rw [pk_and _ k hm, pk_tn h]
theorem pk_shl (a s : Int32) (k : Nat) (hs : (s.toBitVec.smod 32).toNat = k) : (a <<< s).toBitVec.toNat = a.toBitVec.toNat * 2 ^ k % 2 ^ 32 := by
  show (a.toBitVec <<< (s.toBitVec.smod 32).toNat).toNat = _
  rw [hs, BitVec.toNat_shiftLeft, Nat.shiftLeft_eq]
theorem pk_shlN {n : Nat} (s : Int32) (k : Nat) (hs : (s.toBitVec.smod 32).toNat = k) (h : n * 2 ^ k < 2 ^ 32) : nI n <<< s = nI (n * 2 ^ k) := by
  apply Int32.toBitVec_inj.mp
  apply BitVec.eq_of_toNat_eq
  have hn : n < 2 ^ 32 := Nat.lt_of_le_of_lt (Nat.le_mul_of_pos_right n (Nat.two_pow_pos k)) h
  rw [pk_shl _ _ k hs, pk_tn hn, pk_tn h, Nat.mod_eq_of_lt h]
theorem pk_shr (a s : Int32) (k : Nat) (hs : (s.toBitVec.smod 32).toNat = k) : (a >>> s).toInt = a.toInt >>> k := by
  show (a.toBitVec.sshiftRight (s.toBitVec.smod 32).toNat).toInt = _
  rw [hs, BitVec.toInt_sshiftRight]
  rfl
theorem pk_shrN {n : Nat} (h : n < 2 ^ 31) (s : Int32) (k : Nat) (hs : (s.toBitVec.smod 32).toNat = k) : nI n >>> s = nI (n / 2 ^ k) := by
  apply Int32.toInt_inj.mp
  have h2 : n / 2 ^ k ≤ n := Nat.div_le_self _ _
  rw [pk_shr _ _ k hs, nI_toInt h, nI_toInt (by omega), Int.shiftRight_eq_div_pow]
  rfl
theorem pk_ix (x : Int32) {n : Nat} (hn : n < 2 ^ 31) : x < 0 ∨ nI n ≤ x ∨ ∃ j : Nat, j < n ∧ x = nI j := by
  by_cases h : x < 0
  · exact Or.inl h
  · obtain ⟨j, hj, rfl⟩ := nI_of h
    by_cases h2 : j < n
    · exact Or.inr (Or.inr ⟨j, h2, rfl⟩)
    · exact Or.inr (Or.inl (nI_le (by omega) hj))
theorem s_l : ∀ n, n < 32 → ((nI n &&& 31).toBitVec.smod 32).toNat = n := by decide +kernel
theorem nx_and (a b : Nat) : nI a &&& nI b = nI (a &&& b) := by
  apply Int32.toBitVec_inj.1
  show BitVec.ofNat 32 a &&& BitVec.ofNat 32 b = BitVec.ofNat 32 (a &&& b)
  apply BitVec.eq_of_getLsbD_eq
  intro i hi
  simp [hi]
theorem nx_xor (a b : Nat) : nI a ^^^ nI b = nI (a ^^^ b) := by
  apply Int32.toBitVec_inj.1
  show BitVec.ofNat 32 a ^^^ BitVec.ofNat 32 b = BitVec.ofNat 32 (a ^^^ b)
  apply BitVec.eq_of_getLsbD_eq
  intro i hi
  simp [hi]
end
section
/-! numbers, bits and arrays -/
theorem sw_or (a b : Nat) : nI a ||| nI b = nI (a ||| b) := by
  apply Int32.toBitVec_inj.1
  show BitVec.ofNat 32 a ||| BitVec.ofNat 32 b = BitVec.ofNat 32 (a ||| b)
  apply BitVec.eq_of_getLsbD_eq
  intro i hi
  simp [hi]
def sw_na (a : Nat → Nat) : Nat → Int32 := fun s => nI (a s)
theorem sw_at (a : Nat → Nat) {i : Nat} (h : i < 2 ^ 31) : sw_na a (nI i).toNatClampNeg = nI (a i) := by
  unfold sw_na; rw [nI_clamp h]
def sw_up (a : Nat → Nat) (j m : Nat) : Nat → Nat := fun s => if s = j then m else a s
theorem sw_upd (a : Nat → Nat) {j : Nat} (h : j < 2 ^ 31) (m : Nat) : upd (sw_na a) (nI j).toNatClampNeg (nI m) = sw_na (sw_up a j m) := by
  rw [nI_clamp h]
  funext s
  unfold upd sw_na sw_up
  split <;> rfl
theorem sw_bitN (x i : Nat) : x / 2 ^ i % 2 = if x.testBit i = true then 1 else 0 := by
  rw [Nat.testBit_eq_decide_div_mod_eq]
  by_cases h : x / 2 ^ i % 2 = 1
  · simp [h]
  · simp [h]; omega
theorem sw_bitI {x i : Nat} (hx : x < 2 ^ 31) (hi : i < 32) : (nI x >>> (nI i &&& 31)) &&& 1 = nI (if x.testBit i = true then 1 else 0) := by
  rw [pk_shrN hx _ i (s_l i hi), ← sw_bitN]
  exact pk_andN (Nat.lt_of_le_of_lt (Nat.div_le_self _ _) (by omega)) 1 (by decide)
theorem sw_b1 {x i : Nat} (hx : x < 2 ^ 31) (hi : i < 32) (h : x.testBit i = true) : (nI x >>> (nI i &&& 31)) &&& 1 = 1 := by
  rw [sw_bitI hx hi, if_pos h]; rfl
theorem sw_b0 {x i : Nat} (hx : x < 2 ^ 31) (hi : i < 32) (h : x.testBit i = false) : (nI x >>> (nI i &&& 31)) &&& 1 = 0 := by
  rw [sw_bitI hx hi, h]; rfl
theorem sw_bn1 {x i : Nat} (hx : x < 2 ^ 31) (hi : i < 32) (h : x.testBit i = false) : ¬ (nI x >>> (nI i &&& 31)) &&& 1 = 1 := by
  rw [sw_b0 hx hi h]; decide
theorem sw_bn0 {x i : Nat} (hx : x < 2 ^ 31) (hi : i < 32) (h : x.testBit i = true) : ¬ (nI x >>> (nI i &&& 31)) &&& 1 = 0 := by
  rw [sw_b1 hx hi h]; decide
theorem sw_shl : ∀ j, j < 31 → (1 : Int32) <<< (nI j &&& 31) = nI (2 ^ j) := by decide +kernel
theorem sw_notI : ∀ m, m < 1024 → nI 1023 &&& (nI m ^^^ (-1)) = nI (1023 ^^^ m) := by decide +kernel
theorem sw_and1023 {x : Nat} (hx : x < 1024) : x &&& 1023 = x := by
  have h := Nat.and_two_pow_sub_one_eq_mod x 10
  rw [show (2 ^ 10 - 1 : Nat) = 1023 from rfl] at h
  rw [h]; exact Nat.mod_eq_of_lt hx
theorem sw_andn {x m : Nat} (hx : x < 1024) (hm : m < 1024) : nI x &&& (nI m ^^^ (-1)) = nI (x &&& (1023 ^^^ m)) := by
  have e : nI x = nI x &&& nI 1023 := by rw [nx_and, sw_and1023 hx]
  rw [e, Int32.and_assoc, sw_notI m hm, nx_and]
/-- x within m, for sets below 1024 -/
def sw_sub (x m : Nat) : Prop := ∀ i, x.testBit i = true → m.testBit i = true
theorem sw_hi {x i : Nat} (hx : x < 1024) (hi : 10 ≤ i) : x.testBit i = false :=
  Nat.testBit_lt_two_pow (Nat.lt_of_lt_of_le hx (show 2 ^ 10 ≤ 2 ^ i from Nat.pow_le_pow_right (by decide) hi))
theorem sw_lo {x i : Nat} (hx : x < 1024) (h : x.testBit i = true) : i < 10 := by
  rcases Nat.lt_or_ge i 10 with g | g
  · exact g
  · rw [sw_hi hx g] at h; exact absurd h (by decide)
theorem sw_1023 : ∀ i, i < 10 → (1023 : Nat).testBit i = true := by decide
theorem sw_ext {x y : Nat} (hx : x < 1024) (hy : y < 1024) (h : ∀ i, i < 10 → x.testBit i = y.testBit i) : x = y := by
  apply Nat.eq_of_testBit_eq
  intro i
  rcases Nat.lt_or_ge i 10 with g | g
  · exact h i g
  · rw [sw_hi hx g, sw_hi hy g]
theorem sw_subN {x m : Nat} (hx : x < 1024) : x &&& (1023 ^^^ m) = 0 ↔ sw_sub x m := by
  constructor
  · intro h i hi
    have g := congrArg (fun y => Nat.testBit y i) h
    simp only [Nat.testBit_and, Nat.testBit_xor, Nat.zero_testBit, hi, sw_1023 i (sw_lo hx hi)] at g
    cases hm : m.testBit i with
    | true => rfl
    | false => rw [hm] at g; exact absurd g (by decide)
  · intro h
    apply Nat.eq_of_testBit_eq
    intro i
    rw [Nat.testBit_and, Nat.testBit_xor, Nat.zero_testBit]
    cases hi : x.testBit i with
    | true => rw [h i hi, sw_1023 i (sw_lo hx hi)]; rfl
    | false => rfl
theorem sw_and_lt {x m : Nat} (hx : x < 1024) : x &&& m < 1024 := Nat.lt_of_le_of_lt Nat.and_le_left hx
theorem sw_or_lt {x m : Nat} (hx : x < 1024) (hm : m < 1024) : x ||| m < 1024 := Nat.or_lt_two_pow (n := 10) hx hm
theorem sw_xor_lt {x m : Nat} (hx : x < 1024) (hm : m < 1024) : x ^^^ m < 1024 := Nat.xor_lt_two_pow (n := 10) hx hm
theorem sw_or64 {x m : Nat} (hx : x < 64) (hm : m < 64) : x ||| m < 64 := Nat.or_lt_two_pow (n := 6) hx hm
theorem sw_xor64 {x m : Nat} (hx : x < 64) (hm : m < 64) : x ^^^ m < 64 := Nat.xor_lt_two_pow (n := 6) hx hm
theorem sw_p64 : ∀ j, j < 6 → 2 ^ j < 64 := by decide
theorem sw_p1024 : ∀ j, j < 10 → 2 ^ j < 1024 := by decide
theorem sw_pbit (j i : Nat) : (2 ^ j).testBit i = decide (j = i) := Nat.testBit_two_pow
/-- the set without street j -/
def sw_clr (x j : Nat) : Nat := x &&& (1023 ^^^ 2 ^ j)
theorem sw_clr_lt {x j : Nat} (hx : x < 1024) : sw_clr x j < 1024 := sw_and_lt hx
theorem sw_clr_bit {x j i : Nat} (hx : x < 1024) : (sw_clr x j).testBit i = (x.testBit i && !decide (j = i)) := by
  unfold sw_clr
  rw [Nat.testBit_and, Nat.testBit_xor, sw_pbit]
  cases hi : x.testBit i with
  | true => rw [sw_1023 i (sw_lo hx hi)]; cases decide (j = i) <;> rfl
  | false => rfl
theorem sw_clrI {x j : Nat} (hx : x < 1024) (hj : j < 10) : nI x &&& (((1 : Int32) <<< (nI j &&& 31)) ^^^ (-1)) = nI (sw_clr x j) := by
  rw [sw_shl j (by omega), sw_andn hx (sw_p1024 j hj)]; rfl
theorem sw_set_bit (x j i : Nat) : (x ||| 2 ^ j).testBit i = (x.testBit i || decide (j = i)) := by
  rw [Nat.testBit_or, sw_pbit]
theorem sw_setI (x : Nat) {j : Nat} (hj : j < 10) : nI x ||| ((1 : Int32) <<< (nI j &&& 31)) = nI (x ||| 2 ^ j) := by
  rw [sw_shl j (by omega), sw_or]
theorem sw_ne {a b : Nat} (ha : a < 2 ^ 31) (hb : b < 2 ^ 31) (h : a ≠ b) : ¬ nI a = nI b := fun e => h ((nI_eq ha hb).mp e)
theorem sw_nm1 {a : Nat} (ha : a < 2 ^ 31) : ¬ nI a = -1 := by
  intro e
  have h := congrArg Int32.toInt e
  rw [nI_toInt ha, show (-1 : Int32).toInt = -1 from by decide] at h
  omega
theorem sw_e0 {a : Nat} (ha : a < 2 ^ 31) : nI a = 0 ↔ a = 0 := by
  rw [← nI_0, nI_eq ha (by decide)]
/-- the least street of a set -/
def sw_low (d : Nat) : Nat := if d.testBit 0 = true then 0 else if d.testBit 1 = true then 1 else if d.testBit 2 = true then 2 else if d.testBit 3 = true then 3 else if d.testBit 4 = true then 4 else if d.testBit 5 = true then 5 else if d.testBit 6 = true then 6 else if d.testBit 7 = true then 7 else if d.testBit 8 = true then 8 else 9
theorem sw_lowI : ∀ d, d < 1024 → d ≠ 0 → nI d &&& (-nI d) = nI (2 ^ sw_low d) := by decide +kernel
theorem sw_low_bit : ∀ d, d < 1024 → d ≠ 0 → d.testBit (sw_low d) = true := by decide +kernel
theorem sw_low_min : ∀ d, d < 1024 → d ≠ 0 → ∀ i, i < 10 → i < sw_low d → d.testBit i = false := by decide +kernel
end
section
/-! pure pictures of the reading methods, and X's walks against them -/
def sw_len (l : Nat → Nat) (x : Nat) : Nat → Nat
  | 0 => 0
  | k + 1 => sw_len l x k + if x.testBit k = true then l k else 0
def sw_e (a b : Nat → Nat) (s : Nat) : Nat := 2 ^ a s ||| 2 ^ b s
def sw_od (a b : Nat → Nat) (x : Nat) : Nat → Nat
  | 0 => 0
  | k + 1 => if x.testBit k = true then sw_od a b x k ^^^ sw_e a b k else sw_od a b x k
def sw_co (a b : Nat → Nat) (x : Nat) : Nat → Nat
  | 0 => 0
  | k + 1 => if x.testBit k = true then sw_co a b x k ||| sw_e a b k else sw_co a b x k
def sw_sz (x : Nat) : Nat → Nat
  | 0 => 0
  | k + 1 => sw_sz x k + if x.testBit k = true then 1 else 0
def sw_st (a b : Nat → Nat) (x s r : Nat) : Nat := if x.testBit s = true ∧ r &&& sw_e a b s ≠ 0 then r ||| sw_e a b s else r
def sw_sp (a b : Nat → Nat) (x r : Nat) : Nat → Nat
  | 0 => r
  | k + 1 => sw_st a b x k (sw_sp a b x r k)
def sw_rd (a b : Nat → Nat) (x r : Nat) : Nat → Nat
  | 0 => r
  | k + 1 => sw_sp a b x (sw_rd a b x r k) 10
def sw_C (a b : Nat → Nat) : Prop := (∀ s, a s < 6) ∧ (∀ s, b s < 6)
theorem sw_e64 {a b : Nat → Nat} (h : sw_C a b) (s : Nat) : sw_e a b s < 64 := sw_or64 (sw_p64 _ (h.1 s)) (sw_p64 _ (h.2 s))
theorem sw_od64 {a b : Nat → Nat} (h : sw_C a b) (x : Nat) : ∀ k, sw_od a b x k < 64
  | 0 => (show 0 < 64 from by decide)
  | k + 1 => by
    unfold sw_od
    split
    · exact sw_xor64 (sw_od64 h x k) (sw_e64 h k)
    · exact sw_od64 h x k
theorem sw_co64 {a b : Nat → Nat} (h : sw_C a b) (x : Nat) : ∀ k, sw_co a b x k < 64
  | 0 => (show 0 < 64 from by decide)
  | k + 1 => by
    unfold sw_co
    split
    · exact sw_or64 (sw_co64 h x k) (sw_e64 h k)
    · exact sw_co64 h x k
theorem sw_st64 {a b : Nat → Nat} (h : sw_C a b) (x s : Nat) {r : Nat} (hr : r < 64) : sw_st a b x s r < 64 := by
  unfold sw_st
  split
  · exact sw_or64 hr (sw_e64 h s)
  · exact hr
theorem sw_sp64 {a b : Nat → Nat} (h : sw_C a b) (x : Nat) {r : Nat} (hr : r < 64) : ∀ k, sw_sp a b x r k < 64
  | 0 => hr
  | k + 1 => sw_st64 h x k (sw_sp64 h x hr k)
theorem sw_rd64 {a b : Nat → Nat} (h : sw_C a b) (x : Nat) {r : Nat} (hr : r < 64) : ∀ k, sw_rd a b x r k < 64
  | 0 => hr
  | k + 1 => sw_sp64 h x (sw_rd64 h x hr k) 10
theorem sw_len_le {l : Nat → Nat} (h : ∀ s, l s ≤ 20) (x : Nat) : ∀ k, sw_len l x k ≤ 20 * k
  | 0 => Nat.le_refl 0
  | k + 1 => by
    have g := sw_len_le h x k
    have g2 := h k
    unfold sw_len
    split <;> omega
theorem sw_sz_le (x : Nat) : ∀ k, sw_sz x k ≤ k
  | 0 => Nat.le_refl 0
  | k + 1 => by
    have g := sw_sz_le x k
    unfold sw_sz
    split <;> omega
section
variable {post : Int32 → Prop} {P : Int32} {a b l : Nat → Nat} {A B L D : Nat → Int32} {x : Nat}
theorem sw_xcont {u : SX} {i : Nat} (hx : x < 2 ^ 31) (hi : i < 32) (h1 : x.testBit i = true → post 1) (h0 : x.testBit i = false → post 0) : wpX_contains post u (nI x) (nI i) := by
  obtain ⟨f, a, b, l, d⟩ := u
  cases h : x.testBit i with
  | true => exact br_t (sw_b1 hx hi h) (h1 h)
  | false => exact br_f (sw_bn1 hx hi h) (h0 h)
theorem sw_xends {i : Nat} (hC : sw_C a b) (hi : i < 10) (h : post (nI (sw_e a b i))) : wpX_endsOf post (P, sw_na a, sw_na b, L, D) (nI i) := by
  have ha := hC.1 i
  have hb := hC.2 i
  unfold wpX_endsOf
  dsimp only
  rw [sw_at a (by omega), sw_at b (by omega), sw_shl _ (by omega), sw_shl _ (by omega), sw_or]
  exact ⟨vp_in_nI hi (by decide), vp_in_nI hi (by decide), h⟩
theorem sw_xodd (hC : sw_C a b) (hx : x < 1024) (h : post (nI (sw_od a b x 10))) : wpX_oddCorners post (P, sw_na a, sw_na b, L, D) (nI x) := by
  refine loop_0 (fun n i s => wX_oddCorners_4 post (nI x) P (sw_na a) (sw_na b) L D n s (nI i)) (fun i s => s = nI (sw_od a b x i)) 10 0 rfl ?_ ?_
  · intro n s hs
    subst hs
    exact br_t (by decide) h
  · intro n i s hi hs hn
    subst hs
    refine br_f (nI_ge (b := 10) hi (by decide)) ?_
    refine sw_xcont (by omega) (by omega) (fun hb => br_f (by decide) ?_) (fun hb => br_t rfl ?_)
    · refine sw_xends hC hi ?_
      intro y hy z hz
      rw [hy, hz, nI_1, nx_xor]
      exact hn _ (by simp [sw_od, hb])
    · intro z hz
      rw [hz, nI_1]
      exact hn _ (by simp [sw_od, hb])
theorem sw_xcorn (hC : sw_C a b) (hx : x < 1024) (h : post (nI (sw_co a b x 10))) : wpX_cornersOf post (P, sw_na a, sw_na b, L, D) (nI x) := by
  refine loop_0 (fun n i s => wX_cornersOf_4 post (nI x) P (sw_na a) (sw_na b) L D n s (nI i)) (fun i s => s = nI (sw_co a b x i)) 10 0 rfl ?_ ?_
  · intro n s hs
    subst hs
    exact br_t (by decide) h
  · intro n i s hi hs hn
    subst hs
    refine br_f (nI_ge (b := 10) hi (by decide)) ?_
    refine sw_xcont (by omega) (by omega) (fun hb => br_f (by decide) ?_) (fun hb => br_t rfl ?_)
    · refine sw_xends hC hi ?_
      intro y hy z hz
      rw [hy, hz, nI_1, sw_or]
      exact hn _ (by simp [sw_co, hb])
    · intro z hz
      rw [hz, nI_1]
      exact hn _ (by simp [sw_co, hb])
theorem sw_xlen (hx : x < 1024) (h : post (nI (sw_len l x 10))) : wpX_lengthOf post (P, A, B, sw_na l, D) (nI x) := by
  refine loop_0 (fun n i s => wX_lengthOf_4 post (nI x) P A B (sw_na l) D n s (nI i)) (fun i s => s = nI (sw_len l x i)) 10 0 rfl ?_ ?_
  · intro n s hs
    subst hs
    exact br_t (by decide) h
  · intro n i s hi hs hn
    subst hs
    refine br_f (nI_ge (b := 10) hi (by decide)) ?_
    refine sw_xcont (by omega) (by omega) (fun hb => br_f (by decide) ?_) (fun hb => br_t rfl ?_)
    · refine ⟨vp_in_nI hi (by decide), ?_⟩
      intro y hy z hz
      rw [hy, hz, nI_1, sw_at l (by omega), nI_add]
      exact hn _ (by simp [sw_len, hb])
    · intro z hz
      rw [hz, nI_1]
      exact hn _ (by simp [sw_len, hb])
theorem sw_xsz {u : SX} (hx : x < 1024) (h : post (nI (sw_sz x 10))) : wpX_sizeOf post u (nI x) := by
  obtain ⟨P, A, B, L, D⟩ := u
  refine loop_0 (fun n i s => wX_sizeOf_4 post (nI x) P A B L D n s (nI i)) (fun i s => s = nI (sw_sz x i)) 10 0 rfl ?_ ?_
  · intro n s hs
    subst hs
    exact br_t (by decide) h
  · intro n i s hi hs hn
    subst hs
    refine br_f (nI_ge (b := 10) hi (by decide)) ?_
    intro y hy z hz
    rw [hy, hz, nI_1, sw_bitI (by omega) (by omega), nI_add]
    exact hn _ (by simp [sw_sz])
theorem sw_xreach {r : Nat} (hC : sw_C a b) (hx : x < 1024) (hr : r < 64) (h : post (nI (sw_rd a b x r 5))) : wpX_reachedFrom post (P, sw_na a, sw_na b, L, D) (nI r) (nI x) := by
  have H : ∀ d j, j + d = 5 → wX_reachedFrom_5 post (nI x) P (sw_na a) (sw_na b) L D (d + 1) (nI (sw_rd a b x r j)) (nI (j + 1)) := by
    intro d
    induction d with
    | zero =>
      intro j hj
      obtain rfl : j = 5 := by omega
      exact br_t (by decide) h
    | succ d ih =>
      intro j hj
      refine br_f (nI_ge (b := 6) (by omega) (by decide)) ?_
      refine loop_0 (fun n i s => wX_reachedFrom_15 post (wX_reachedFrom_5 post (nI x) P (sw_na a) (sw_na b) L D (d + 1)) (nI x) (nI (j + 1)) P (sw_na a) (sw_na b) L D n s (nI i)) (fun i s => s = nI (sw_sp a b x (sw_rd a b x r j) i)) 10 _ rfl ?_ ?_
      · intro n s hs
        subst hs
        refine br_t (by decide) ?_
        intro y hy
        rw [hy, nI_1]
        exact ih (j + 1) (by omega)
      · intro n i s hi hs hn
        subst hs
        have h64 := sw_sp64 hC x (sw_rd64 hC x hr j) i
        refine br_f (nI_ge (b := 10) hi (by decide)) ?_
        refine sw_xcont (by omega) (by omega) (fun hb => br_f (by decide) ?_) (fun hb => br_t rfl ?_)
        · refine sw_xends hC hi ?_
          have hle := Nat.and_le_left (n := sw_sp a b x (sw_rd a b x r j) i) (m := sw_e a b i)
          by_cases hz : sw_sp a b x (sw_rd a b x r j) i &&& sw_e a b i = 0
          · refine br_t (by rw [nx_and, hz]; rfl) ?_
            intro z ez
            rw [ez, nI_1]
            exact hn _ (by simp [sw_sp, sw_st, hz])
          · refine br_f (by rw [nx_and, sw_e0 (by omega)]; exact hz) ?_
            refine sw_xends hC hi ?_
            intro y ey z ez
            rw [ey, ez, nI_1, sw_or]
            exact hn _ (by simp [sw_sp, sw_st, hz, hb])
        · intro z ez
          rw [ez, nI_1]
          exact hn _ (by simp [sw_sp, sw_st, hb])
  exact ⟨6, H 5 0 rfl⟩
end
end
section
/-! Y's reading methods -/
def sw_ms (f : Nat → Bool) : Nat → Nat
  | 0 => 0
  | k + 1 => if f k = true then sw_ms f k ||| 2 ^ k else sw_ms f k
theorem sw_ms_bit (f : Nat → Bool) (i : Nat) : ∀ k, (sw_ms f k).testBit i = (decide (i < k) && f i)
  | 0 => by simp [sw_ms]
  | k + 1 => by
    have ih := sw_ms_bit f i k
    unfold sw_ms
    by_cases hk : f k = true
    · rw [if_pos hk, Nat.testBit_or, ih, sw_pbit]
      by_cases e : k = i
      · subst e; simp [hk]
      · have e1 : decide (k = i) = false := decide_eq_false e
        have e2 : decide (i < k + 1) = decide (i < k) := by
          apply decide_eq_decide.mpr; omega
        rw [e1, e2, Bool.or_false]
    · rw [if_neg hk, ih]
      by_cases e : k = i
      · subst e; simp [hk]
      · have e2 : decide (i < k + 1) = decide (i < k) := by
          apply decide_eq_decide.mpr; omega
        rw [e2]
theorem sw_ms_lt (f : Nat → Bool) : sw_ms f 10 < 1024 := by
  apply Nat.lt_pow_two_of_testBit (n := 10)
  intro i hi
  rw [sw_ms_bit, decide_eq_false (by omega)]; rfl
theorem sw_ms_self {p : Nat} (hp : p < 1024) : sw_ms (fun s => p.testBit s) 10 = p := by
  apply sw_ext (sw_ms_lt _) hp
  intro i hi
  rw [sw_ms_bit, decide_eq_true hi]; rfl
def sw_rev (c : Nat) : Nat := sw_ms (fun s => c.testBit (9 - s)) 10
theorem sw_rev_lt (c : Nat) : sw_rev c < 1024 := sw_ms_lt _
theorem sw_rev_bit (c i : Nat) : (sw_rev c).testBit i = (decide (i < 10) && c.testBit (9 - i)) := sw_ms_bit _ i 10
theorem sw_rev_rev {c : Nat} (hc : c < 1024) : sw_rev (sw_rev c) = c := by
  apply sw_ext (sw_rev_lt _) hc
  intro i hi
  rw [sw_rev_bit, sw_rev_bit, decide_eq_true hi, decide_eq_true (show 9 - i < 10 by omega), show 9 - (9 - i) = i by omega]; rfl
theorem sw_ltbit {x y : Nat} (t : Nat) (hx : x.testBit t = false) (hy : y.testBit t = true) (h : ∀ i, t < i → x.testBit i = y.testBit i) : x < y := by
  have e : x / 2 ^ (t + 1) = y / 2 ^ (t + 1) := by
    apply Nat.eq_of_testBit_eq
    intro i
    rw [Nat.testBit_div_two_pow, Nat.testBit_div_two_pow]
    exact h _ (by omega)
  rw [Nat.pow_succ, ← Nat.div_div_eq_div_mul, ← Nat.div_div_eq_div_mul] at e
  rw [Nat.testBit_eq_decide_div_mod_eq] at hx hy
  have h1 := of_decide_eq_false hx
  have h2 := of_decide_eq_true hy
  rcases Nat.lt_or_ge x y with g | g
  · exact g
  · have := Nat.div_le_div_right (c := 2 ^ t) g
    omega
theorem sw_rev_lt_of {s o t : Nat} (ht : t < 10) (hs : s.testBit t = false) (ho : o.testBit t = true) (h : ∀ i, i < t → s.testBit i = o.testBit i) : sw_rev s < sw_rev o := by
  apply sw_ltbit (9 - t)
  · rw [sw_rev_bit, show 9 - (9 - t) = t by omega, hs, Bool.and_false]
  · rw [sw_rev_bit, show 9 - (9 - t) = t by omega, ho, decide_eq_true (by omega)]; rfl
  · intro i hi
    rw [sw_rev_bit, sw_rev_bit]
    rcases Nat.lt_or_ge i 10 with g | g
    · rw [h (9 - i) (by omega)]
    · rw [decide_eq_false (by omega)]; rfl
def sw_tb (p : Nat) : Nat → Nat := fun s => if p.testBit s = true then 1 else 0
theorem sw_xe : ∀ i, i < 6 → ∀ j, j < 6 → i ≠ j → 2 ^ i ^^^ 2 ^ j = 2 ^ i ||| 2 ^ j := by decide
theorem sw_shl0 : ∀ j, j < 32 → (0 : Int32) <<< (nI j &&& 31) = 0 := by decide +kernel
section
variable {post : Int32 → Prop} {p x : Nat} {a b l f : Nat → Nat} {T A B L F N : Nat → Int32}
theorem sw_ystreets (hp : p < 1024) (h : post (nI p)) : wpY_streets post (sw_na (sw_tb p), A, B, L, F, N) := by
  refine loop_0 (fun n i s => wY_streets_4 post (sw_na (sw_tb p)) A B L F N n s (nI i)) (fun i s => s = nI (sw_ms (fun s => p.testBit s) i)) 10 0 rfl ?_ ?_
  · intro n s hs
    subst hs
    rw [sw_ms_self hp]
    exact br_t (by decide) h
  · intro n i s hi hs hn
    subst hs
    refine br_f (nI_ge (b := 10) hi (by decide)) ?_
    refine ⟨vp_in_nI hi (by decide), ?_⟩
    rw [sw_at _ (by omega)]
    cases hb : p.testBit i with
    | true =>
      refine br_f (by simp [sw_tb, hb]; decide) ?_
      intro y hy z hz
      rw [hy, hz, nI_1, sw_setI _ hi]
      exact hn _ (by simp [sw_ms, hb])
    | false =>
      refine br_t (by simp [sw_tb, hb]; rfl) ?_
      intro y hy z hz
      rw [hy, hz, nI_1, Int32.or_zero]
      exact hn _ (by simp [sw_ms, hb])
theorem sw_yoddOf (hC : sw_C a b) (hx : x < 1024) (hne : ∀ s, x.testBit s = true → a s ≠ b s) (h : post (nI (sw_od a b x 10))) : wpY_oddOf post (T, sw_na a, sw_na b, L, F, N) (nI x) := by
  refine loop_0 (fun n i s => wY_oddOf_4 post (nI x) T (sw_na a) (sw_na b) L F N n s (nI i)) (fun i s => s = nI (sw_od a b x i)) 10 0 rfl ?_ ?_
  · intro n s hs
    subst hs
    exact br_t (by decide) h
  · intro n i s hi hs hn
    subst hs
    have hai := hC.1 i
    have hbi := hC.2 i
    refine br_f (nI_ge (b := 10) hi (by decide)) ?_
    cases hb : x.testBit i with
    | true =>
      refine br_t (sw_b1 (by omega) (by omega) hb) ?_
      refine ⟨vp_in_nI hi (by decide), vp_in_nI hi (by decide), ?_⟩
      intro y hy z hz
      rw [sw_at a (by omega), sw_at b (by omega), sw_shl _ (by omega), sw_shl _ (by omega), nx_xor, nx_xor, Nat.xor_assoc, sw_xe _ hai _ hbi (hne i hb)] at hy
      rw [hy, hz, nI_1]
      exact hn _ (by simp [sw_od, hb, sw_e])
    | false =>
      refine br_f (sw_bn1 (by omega) (by omega) hb) ?_
      intro z hz
      rw [hz, nI_1]
      exact hn _ (by simp [sw_od, hb])
theorem sw_yodd (hC : sw_C a b) (hp : p < 1024) (hne : ∀ s, p.testBit s = true → a s ≠ b s) (h : post (nI (sw_od a b p 10))) : wpY_odd post (sw_na (sw_tb p), sw_na a, sw_na b, L, F, N) :=
  sw_ystreets hp (sw_yoddOf hC hp hne h)
theorem sw_ylen (hx : x < 1024) (h : post (nI (sw_len l x 10))) : wpY_lengthOf post (T, A, B, sw_na l, F, N) (nI x) := by
  refine loop_0 (fun n i s => wY_lengthOf_4 post (nI x) T A B (sw_na l) F N n s (nI i)) (fun i s => s = nI (sw_len l x i)) 10 0 rfl ?_ ?_
  · intro n s hs
    subst hs
    exact br_t (by decide) h
  · intro n i s hi hs hn
    subst hs
    refine br_f (nI_ge (b := 10) hi (by decide)) ?_
    cases hb : x.testBit i with
    | true =>
      refine br_t (sw_b1 (by omega) (by omega) hb) ?_
      refine ⟨vp_in_nI hi (by decide), ?_⟩
      intro y hy z hz
      rw [hy, hz, nI_1, sw_at l (by omega), nI_add]
      exact hn _ (by simp [sw_len, hb])
    | false =>
      refine br_f (sw_bn1 (by omega) (by omega) hb) ?_
      intro y hy z hz
      rw [hy, hz, nI_1, Int32.add_zero]
      exact hn _ (by simp [sw_len, hb])
theorem sw_ysetOf {v : SY} (hx : x < 1024) (h : post (nI (sw_rev x))) : wpY_setOf post v (nI x) := by
  obtain ⟨T, A, B, L, F, N⟩ := v
  refine loop_0 (fun n i s => wY_setOf_4 post (nI x) T A B L F N n s (nI i)) (fun i s => s = nI (sw_ms (fun s => x.testBit (9 - s)) i)) 10 0 rfl ?_ ?_
  · intro n s hs
    subst hs
    exact br_t (by decide) h
  · intro n i s hi hs hn
    subst hs
    refine br_f (nI_ge (b := 10) hi (by decide)) ?_
    intro y hy z hz
    rw [show (9 : Int32) - nI i = nI (9 - i) from pk_sub (a := 9) (by omega)] at hy
    cases hb : x.testBit (9 - i) with
    | true =>
      rw [sw_b1 (by omega) (by omega) hb, sw_setI _ hi] at hy
      rw [hy, hz, nI_1]
      exact hn _ (by simp [sw_ms, hb])
    | false =>
      rw [sw_b0 (by omega) (by omega) hb, sw_shl0 _ (by omega), Int32.or_zero] at hy
      rw [hy, hz, nI_1]
      exact hn _ (by simp [sw_ms, hb])
theorem sw_yrest (hf : ∀ s, s < 10 → f s < 2 ^ 31) (h : post (nI (sw_ms (fun s => decide (0 < f s)) 10))) : wpY_rest post (T, A, B, L, sw_na f, N) := by
  refine loop_0 (fun n i s => wY_rest_4 post T A B L (sw_na f) N n s (nI i)) (fun i s => s = nI (sw_ms (fun s => decide (0 < f s)) i)) 10 0 rfl ?_ ?_
  · intro n s hs
    subst hs
    exact br_t (by decide) h
  · intro n i s hi hs hn
    subst hs
    refine br_f (nI_ge (b := 10) hi (by decide)) ?_
    refine ⟨vp_in_nI hi (by decide), ?_⟩
    rw [sw_at _ (by omega)]
    by_cases hb : 0 < f i
    · refine br_f (nI_nle hb (hf i hi)) ?_
      intro y hy z hz
      rw [hy, hz, nI_1, sw_setI _ hi]
      exact hn _ (by simp [sw_ms, hb])
    · refine br_t (by rw [show f i = 0 by omega]; decide) ?_
      intro y hy z hz
      rw [hy, hz, nI_1, Int32.or_zero]
      exact hn _ (by simp [sw_ms, hb])
theorem sw_yreach {c : Nat} (hC : sw_C a b) (hx : x < 1024) (hc : c < 6) (h : post (nI (sw_rd a b x (2 ^ c) 6))) : wpY_reached post (T, sw_na a, sw_na b, L, F, N) (nI c) (nI x) := by
  have hr : 2 ^ c < 64 := sw_p64 c hc
  have H : ∀ d j, j + d = 6 → wY_reached_7 post (nI x) T (sw_na a) (sw_na b) L F N (d + 1) (nI (sw_rd a b x (2 ^ c) j)) (nI j) := by
    intro d
    induction d with
    | zero =>
      intro j hj
      obtain rfl : j = 6 := by omega
      exact br_t (by decide) h
    | succ d ih =>
      intro j hj
      refine br_f (nI_ge (b := 6) (by omega) (by decide)) ?_
      refine loop_0 (fun n i s => wY_reached_17 post (wY_reached_7 post (nI x) T (sw_na a) (sw_na b) L F N (d + 1)) (nI x) (nI j) T (sw_na a) (sw_na b) L F N n s (nI i)) (fun i s => s = nI (sw_sp a b x (sw_rd a b x (2 ^ c) j) i)) 10 _ rfl ?_ ?_
      · intro n s hs
        subst hs
        refine br_t (by decide) ?_
        intro y hy
        rw [hy, nI_1]
        exact ih (j + 1) (by omega)
      · intro n i s hi hs hn
        subst hs
        have h64 := sw_sp64 hC x (sw_rd64 hC x hr j) i
        have hai := hC.1 i
        have hbi := hC.2 i
        refine br_f (nI_ge (b := 10) hi (by decide)) ?_
        refine ⟨vp_in_nI hi (by decide), vp_in_nI hi (by decide), ?_⟩
        intro w hw
        rw [sw_at a (by omega), sw_at b (by omega), sw_shl _ (by omega), sw_shl _ (by omega), sw_or] at hw
        have hw : w = nI (sw_e a b i) := hw
        subst hw
        cases hb : x.testBit i with
        | true =>
          refine br_t (sw_b1 (by omega) (by omega) hb) ?_
          have hle := Nat.and_le_left (n := sw_sp a b x (sw_rd a b x (2 ^ c) j) i) (m := sw_e a b i)
          by_cases hz : sw_sp a b x (sw_rd a b x (2 ^ c) j) i &&& sw_e a b i = 0
          · refine br_t (by rw [nx_and, hz]; rfl) ?_
            intro z ez
            rw [ez, nI_1]
            exact hn _ (by simp [sw_sp, sw_st, hz])
          · refine br_f (by rw [nx_and, sw_e0 (by omega)]; exact hz) ?_
            intro y ey z ez
            rw [ey, ez, nI_1, sw_or]
            exact hn _ (by simp [sw_sp, sw_st, hz, hb])
        | false =>
          refine br_f (sw_bn1 (by omega) (by omega) hb) ?_
          intro z ez
          rw [ez, nI_1]
          exact hn _ (by simp [sw_sp, sw_st, hb])
  exact nm_r (sw_shl c (by omega)) ⟨7, H 6 0 rfl⟩
def sw_af (a : Nat → Nat) (x R : Nat) : Nat → Bool
  | 0 => true
  | k + 1 => sw_af a x R k && (!x.testBit k || R.testBit (a k))
theorem sw_af_iff (a : Nat → Nat) (x R : Nat) : ∀ k, sw_af a x R k = true ↔ ∀ s, s < k → x.testBit s = true → R.testBit (a s) = true
  | 0 => by simp [sw_af]
  | k + 1 => by
    rw [sw_af, Bool.and_eq_true, sw_af_iff a x R k]
    constructor
    · intro h s hs hx
      rcases Nat.lt_or_ge s k with g | g
      · exact h.1 s g hx
      · obtain rfl : s = k := by omega
        have h2 := h.2
        rw [hx] at h2
        simpa using h2
    · intro h
      refine ⟨fun s hs => h s (by omega), ?_⟩
      cases hx : x.testBit k with
      | true => simp [h k (by omega) hx]
      | false => rfl
theorem sw_nar (c : Bool) : narrow .boolean (.int (if c = true then 1 else 0)) = .int (if c = true then 1 else 0) := by
  cases c <;> rfl
theorem sw_yallFrom {c : Nat} (hC : sw_C a b) (hx : x < 1024) (hc : c < 6) (h : post (if sw_af a x (sw_rd a b x (2 ^ c) 6) 10 = true then 1 else 0)) : wpY_allFrom post (T, sw_na a, sw_na b, L, F, N) (nI c) (nI x) := by
  refine sw_yreach hC hx hc ?_
  have hR := sw_rd64 hC x (sw_p64 c hc) 6
  generalize sw_rd a b x (2 ^ c) 6 = R at *
  refine loop_0 (fun n i s => wY_allFrom_13 post (nI x) (nI R) T (sw_na a) (sw_na b) L F N n s (nI i)) (fun i s => s = if sw_af a x R i = true then 1 else 0) 10 1 rfl ?_ ?_
  · intro n s hs
    subst hs
    exact br_t (by decide) ⟨sw_nar _, h⟩
  · intro n i s hi hs hn
    subst hs
    have hai := hC.1 i
    refine br_f (nI_ge (b := 10) hi (by decide)) ?_
    cases hf : sw_af a x R i with
    | false =>
      refine br_t rfl ?_
      intro z ez
      rw [ez, nI_1]
      exact hn _ (by simp [sw_af, hf])
    | true =>
      refine br_f (by decide) ?_
      cases hb : x.testBit i with
      | false =>
        refine br_t (sw_b0 (by omega) (by omega) hb) ?_
        intro z ez
        rw [ez, nI_1]
        exact hn _ (by simp [sw_af, hf, hb])
      | true =>
        refine br_f (sw_bn0 (by omega) (by omega) hb) ⟨vp_in_nI hi (by decide), ?_⟩
        rw [sw_at a (by omega)]
        cases hr : R.testBit (a i) with
        | true =>
          refine br_t (sw_b1 (by omega) (by omega) hr) ?_
          intro z ez
          rw [ez, nI_1]
          exact hn _ (by simp [sw_af, hf, hr])
        | false =>
          refine br_f (sw_bn1 (by omega) (by omega) hr) ?_
          intro z ez
          rw [ez, nI_1]
          exact hn _ (by simp [sw_af, hf, hr, hb])
end
end
section
/-! the best set: X's order of sets against Y's order of codes -/
def sw_key (l : Nat → Nat) (s : Nat) : Nat := sw_len l s 10 * 1024 + sw_rev s
def sw_F (a b : Nat → Nat) (p nd al s : Nat) : Prop := sw_sub s al ∧ s &&& nd = nd ∧ sw_od a b s 10 = sw_od a b p 10
def sw_best (F : Nat → Prop) (l : Nat → Nat) (r : Int32) : Prop := (r = -1 ∧ ∀ s, s < 1024 → ¬ F s) ∨ ∃ m, m < 1024 ∧ r = nI m ∧ F m ∧ ∀ s, s < 1024 → F s → sw_key l m ≤ sw_key l s
theorem sw_best_u {F : Nat → Prop} {l : Nat → Nat} {r r' : Int32} (h : sw_best F l r) (h' : sw_best F l r') : r' = r := by
  rcases h with ⟨rfl, h⟩ | ⟨m, hm, rfl, hF, h⟩
  · rcases h' with ⟨rfl, h'⟩ | ⟨m', hm', rfl, hF', h'⟩
    · rfl
    · exact absurd hF' (h m' hm')
  · rcases h' with ⟨rfl, h'⟩ | ⟨m', hm', rfl, hF', h'⟩
    · exact absurd hF (h' m hm)
    · have h1 := h m' hm' hF'
      have h2 := h' m hm hF
      have r1 := sw_rev_lt m
      have r2 := sw_rev_lt m'
      unfold sw_key at h1 h2
      have e : sw_rev m' = sw_rev m := by omega
      have e2 := congrArg sw_rev e
      rw [sw_rev_rev hm, sw_rev_rev hm'] at e2
      rw [e2]
def sw_bi (F : Nat → Prop) (l : Nat → Nat) (g : Nat → Nat) (i : Nat) (r : Int32) : Prop := (r = -1 ∧ ∀ j, j < i → ¬ F (g j)) ∨ ∃ m, m < 1024 ∧ r = nI m ∧ F m ∧ (∃ j, j < i ∧ g j = m) ∧ ∀ j, j < i → F (g j) → sw_key l m ≤ sw_key l (g j)
section
variable {F : Nat → Prop} {l g : Nat → Nat} {i m : Nat} {r : Int32}
theorem sw_bi_skip (h : sw_bi F l g i r) (hF : ¬ F (g i)) : sw_bi F l g (i + 1) r := by
  rcases h with ⟨e, h⟩ | ⟨m, hm, e, hFm, ⟨j, hj, ej⟩, h⟩
  · refine Or.inl ⟨e, fun j hj => ?_⟩
    rcases Nat.lt_or_ge j i with q | q
    · exact h j q
    · obtain rfl : j = i := by omega
      exact hF
  · refine Or.inr ⟨m, hm, e, hFm, ⟨j, by omega, ej⟩, fun j hj hFj => ?_⟩
    rcases Nat.lt_or_ge j i with q | q
    · exact h j q hFj
    · obtain rfl : j = i := by omega
      exact absurd hFj hF
theorem sw_bi_first (h : ∀ j, j < i → ¬ F (g j)) (hF : F (g i)) (hg : g i < 1024) : sw_bi F l g (i + 1) (nI (g i)) := by
  refine Or.inr ⟨g i, hg, rfl, hF, ⟨i, by omega, rfl⟩, fun j hj hFj => ?_⟩
  rcases Nat.lt_or_ge j i with q | q
  · exact absurd hFj (h j q)
  · obtain rfl : j = i := by omega
    exact Nat.le_refl _
theorem sw_bi_take (h : ∀ j, j < i → F (g j) → sw_key l m ≤ sw_key l (g j)) (hF : F (g i)) (hg : g i < 1024) (hk : sw_key l (g i) < sw_key l m) : sw_bi F l g (i + 1) (nI (g i)) := by
  refine Or.inr ⟨g i, hg, rfl, hF, ⟨i, by omega, rfl⟩, fun j hj hFj => ?_⟩
  rcases Nat.lt_or_ge j i with q | q
  · have := h j q hFj
    omega
  · obtain rfl : j = i := by omega
    exact Nat.le_refl _
theorem sw_bi_keep (hm : m < 1024) (hFm : F m) (hj : ∃ j, j < i ∧ g j = m) (h : ∀ j, j < i → F (g j) → sw_key l m ≤ sw_key l (g j)) (hk : ¬ sw_key l (g i) < sw_key l m) : sw_bi F l g (i + 1) (nI m) := by
  obtain ⟨j, hj, ej⟩ := hj
  refine Or.inr ⟨m, hm, rfl, hFm, ⟨j, by omega, ej⟩, fun j hj hFj => ?_⟩
  rcases Nat.lt_or_ge j i with q | q
  · exact h j q hFj
  · obtain rfl : j = i := by omega
    omega
theorem sw_bi_end (h : sw_bi F l g 1024 r) (hg : ∀ s, s < 1024 → ∃ j, j < 1024 ∧ g j = s) : sw_best F l r := by
  rcases h with ⟨e, h⟩ | ⟨m, hm, e, hFm, _, h⟩
  · refine Or.inl ⟨e, fun s hs => ?_⟩
    obtain ⟨j, hj, rfl⟩ := hg s hs
    exact h j hj
  · refine Or.inr ⟨m, hm, e, hFm, fun s hs => ?_⟩
    obtain ⟨j, hj, rfl⟩ := hg s hs
    exact h j hj
end
theorem sw_and2 (o t : Nat) : o &&& 2 ^ t = if o.testBit t = true then 2 ^ t else 0 := by
  apply Nat.eq_of_testBit_eq
  intro i
  rw [Nat.testBit_and, sw_pbit]
  by_cases e : t = i
  · subst e
    cases h : o.testBit t with
    | true => simp [sw_pbit]
    | false => simp
  · rw [decide_eq_false e, Bool.and_false]
    split
    · rw [sw_pbit, decide_eq_false e]
    · simp
section
variable {post : Int32 → Prop} {P : Int32} {a b l : Nat → Nat} {A B L D F N : Nat → Int32} {p nd al nv : Nat}
theorem sw_xbetter {s o : Nat} (hl : ∀ s, l s ≤ 20) (hs : s < 1024) (ho : o < 1024) (h1 : sw_key l s < sw_key l o → post 1) (h0 : ¬ sw_key l s < sw_key l o → post 0) : wpX_isBetter post (P, A, B, sw_na l, D) (nI s) (nI o) := by
  have l1 := sw_len_le hl s 10
  have l2 := sw_len_le hl o 10
  have r1 := sw_rev_lt s
  have r2 := sw_rev_lt o
  refine sw_xlen hs (sw_xlen ho ?_)
  by_cases e : sw_len l s 10 = sw_len l o 10
  · refine br_t (by rw [e]) ?_
    intro y ey z ez
    rw [nx_xor] at ey
    subst ey
    by_cases hd : s ^^^ o = 0
    · rw [hd] at ez
      have ez : z = 0 := ez.trans (by decide)
      subst ez
      have e2 : s = o := by
        apply Nat.eq_of_testBit_eq
        intro i
        have q := congrArg (fun y => Nat.testBit y i) hd
        simp only [Nat.testBit_xor, Nat.zero_testBit] at q
        cases hs : s.testBit i <;> cases ho : o.testBit i <;> simp_all
      refine br_t Int32.and_zero (h0 ?_)
      rw [e2]
      exact Nat.lt_irrefl _
    · have hx := sw_xor_lt hs ho
      have hbt := sw_low_bit _ hx hd
      have hmin := sw_low_min _ hx hd
      rw [sw_lowI _ hx hd] at ez
      subst ez
      generalize sw_low (s ^^^ o) = t at *
      have ht := sw_lo hx hbt
      have ht2 := sw_p1024 t ht
      have ht0 : 0 < 2 ^ t := Nat.two_pow_pos t
      have hag : ∀ i, i < t → s.testBit i = o.testBit i := by
        intro i hi
        have q := hmin i (by omega) hi
        rw [Nat.testBit_xor] at q
        cases h1 : s.testBit i <;> cases h2 : o.testBit i <;> simp_all
      rw [Nat.testBit_xor] at hbt
      have hand := sw_and2 o t
      cases hot : o.testBit t with
      | true =>
        have hst : s.testBit t = false := by
          cases h1 : s.testBit t <;> simp_all
        rw [hot, if_pos rfl] at hand
        refine br_f (by rw [nx_and, hand, sw_e0 (by omega)]; omega) (h1 ?_)
        have := sw_rev_lt_of ht hst hot hag
        unfold sw_key
        omega
      | false =>
        have hst : s.testBit t = true := by
          cases h1 : s.testBit t <;> simp_all
        rw [hot, if_neg (by decide)] at hand
        refine br_t (by rw [nx_and, hand]; rfl) (h0 ?_)
        have := sw_rev_lt_of ht hot hst (fun i hi => (hag i hi).symm)
        unfold sw_key
        omega
  · refine br_f (sw_ne (by omega) (by omega) e) ?_
    unfold sw_key at h0 h1
    by_cases q : sw_len l o 10 ≤ sw_len l s 10
    · exact br_t (nI_le q (by omega)) (h0 (by omega))
    · exact br_f (nI_ge (by omega) (by omega)) (h1 (by omega))
theorem sw_xbest (hC : sw_C a b) (hl : ∀ s, l s ≤ 20) (hp : p < 1024) (hnd : nd < 1024) (hal : al < 1024) (h : ∀ r, sw_best (sw_F a b p nd al) l r → post r) : wpX_bestAmong post (nI p, sw_na a, sw_na b, sw_na l, D) (nI nd) (nI al) := by
  refine sw_xodd hC hp ?_
  have o2 := sw_od64 hC p 10
  refine loop_0 (fun n i s => wX_bestAmong_15 post (nI nd) (nI al) (nI (sw_od a b p 10)) (nI p) (sw_na a) (sw_na b) (sw_na l) D n s (nI i)) (fun i s => sw_bi (sw_F a b p nd al) l id i s) 1024 (-1) (Or.inl ⟨rfl, fun j hj => absurd hj (Nat.not_lt_zero j)⟩) ?_ ?_
  · intro n s hs
    exact br_t (by decide) (h _ (sw_bi_end hs (fun s hs => ⟨s, hs, rfl⟩)))
  · intro n i s hi hs hn
    have o1 := sw_od64 hC i 10
    have skip : ¬ sw_F a b p nd al i → ∀ z, z = nI i + 1 → wX_bestAmong_15 post (nI nd) (nI al) (nI (sw_od a b p 10)) (nI p) (sw_na a) (sw_na b) (sw_na l) D n s z := by
      intro hF z ez
      rw [ez, nI_1]
      exact hn _ (sw_bi_skip hs hF)
    refine br_f (nI_ge (b := 1024) hi (by decide)) ?_
    by_cases c1 : i &&& nd = nd
    · refine br_t (by rw [nx_and, c1]) ?_
      by_cases c2 : sw_sub i al
      · refine br_t (by rw [sw_andn hi hal, (sw_subN hi).mpr c2]; rfl) ?_
        refine br_f (by decide) ?_
        refine sw_xodd hC hi ?_
        by_cases c3 : sw_od a b i 10 = sw_od a b p 10
        · refine br_t (by rw [c3]) ?_
          have hF : sw_F a b p nd al (id i) := ⟨c2, c1, c3⟩
          rcases hs with ⟨rfl, hs⟩ | ⟨m, hm, rfl, hFm, hj, hs⟩
          · refine br_t rfl ?_
            intro z ez
            rw [ez, nI_1]
            exact hn _ (sw_bi_first hs hF hi)
          · refine br_f (sw_nm1 (by omega)) ?_
            refine sw_xbetter hl hi hm (fun k => br_f (by decide) ?_) (fun k => br_t rfl ?_)
            · intro z ez
              rw [ez, nI_1]
              exact hn _ (sw_bi_take hs hF hi k)
            · intro z ez
              rw [ez, nI_1]
              exact hn _ (sw_bi_keep hm hFm hj hs k)
        · exact br_f (sw_ne (by omega) (by omega) c3) (skip (fun q => c3 q.2.2))
      · refine br_f (by rw [sw_andn hi hal, sw_e0 (Nat.lt_trans (sw_and_lt hi) (by decide)), sw_subN hi]; exact c2) ?_
        exact br_t rfl (skip (fun q => c2 q.1))
    · have hle : i &&& nd ≤ i := Nat.and_le_left
      refine br_f (by rw [nx_and]; exact sw_ne (by omega) (by omega) c1) ?_
      exact br_t rfl (skip (fun q => c1 q.2.1))
theorem sw_yfirst (hC : sw_C a b) (hl : ∀ s, l s ≤ 20) (hp : p < 1024) (hne : ∀ s, p.testBit s = true → a s ≠ b s) (hnd : nd < 1024) (hal : ∀ s, s < 1024 → (sw_sub s al ↔ sw_sub s p ∧ s &&& nv = 0)) (h : ∀ r, sw_best (sw_F a b p nd al) l r → post r) : wpY_first post (sw_na (sw_tb p), sw_na a, sw_na b, sw_na l, F, N) (nI nd) (nI nv) := by
  refine sw_ystreets hp (sw_yodd hC hp hne ?_)
  have o2 := sw_od64 hC p 10
  refine loop_0 (fun n i s => wY_first_17 post (nI nd) (nI nv) (nI p) (nI (sw_od a b p 10)) (sw_na (sw_tb p)) (sw_na a) (sw_na b) (sw_na l) F N n s (nI i)) (fun i s => sw_bi (sw_F a b p nd al) l sw_rev i s) 1024 (-1) (Or.inl ⟨rfl, fun j hj => absurd hj (Nat.not_lt_zero j)⟩) ?_ ?_
  · intro n s hs
    exact br_t (by decide) (h _ (sw_bi_end hs (fun s hs => ⟨sw_rev s, sw_rev_lt s, sw_rev_rev hs⟩)))
  · intro n i s hi hs hn
    have ho := sw_rev_lt i
    have hri := sw_rev_rev hi
    have o1 := sw_od64 hC (sw_rev i) 10
    have l1 := sw_len_le hl (sw_rev i) 10
    have skip : ¬ sw_F a b p nd al (sw_rev i) → ∀ z, z = nI i + 1 → wY_first_17 post (nI nd) (nI nv) (nI p) (nI (sw_od a b p 10)) (sw_na (sw_tb p)) (sw_na a) (sw_na b) (sw_na l) F N n s z := by
      intro hF z ez
      rw [ez, nI_1]
      exact hn _ (sw_bi_skip hs hF)
    refine br_f (nI_ge (b := 1024) hi (by decide)) ?_
    refine sw_ysetOf hi ?_
    by_cases c2 : sw_sub (sw_rev i) p
    · refine br_t (by rw [sw_andn ho hp, (sw_subN ho).mpr c2]; rfl) ?_
      by_cases c1 : sw_rev i &&& nd = nd
      · refine br_t (by rw [nx_and, c1]) ?_
        have hle : sw_rev i &&& nv ≤ sw_rev i := Nat.and_le_left
        by_cases c4 : sw_rev i &&& nv = 0
        · refine br_t (by rw [nx_and, c4]; rfl) ?_
          refine sw_yoddOf hC ho (fun s hs => hne s (c2 s hs)) ?_
          by_cases c3 : sw_od a b (sw_rev i) 10 = sw_od a b p 10
          · refine br_t (by rw [c3]) ?_
            have hF : sw_F a b p nd al (sw_rev i) := ⟨(hal _ ho).mpr ⟨c2, c4⟩, c1, c3⟩
            refine sw_ylen ho ?_
            rcases hs with ⟨rfl, hs⟩ | ⟨m, hm, rfl, hFm, hj, hs⟩
            · refine br_f (by decide) ?_
              refine br_f (nI_ge (b := 100000) (by omega) (by decide)) ?_
              intro z ez
              rw [ez, nI_1]
              exact hn _ (sw_bi_first hs hF ho)
            · refine br_t (nI_pos' (by omega)) ?_
              refine sw_ylen hm ?_
              have l2 := sw_len_le hl m 10
              have r2 := sw_rev_lt m
              by_cases q : sw_len l m 10 ≤ sw_len l (sw_rev i) 10
              · refine br_t (nI_le q (by omega)) ?_
                intro z ez
                rw [ez, nI_1]
                refine hn _ (sw_bi_keep hm hFm hj hs ?_)
                obtain ⟨j, hj, rfl⟩ := hj
                have hrj := sw_rev_rev (show j < 1024 by omega)
                unfold sw_key
                rw [hri, hrj]
                omega
              · refine br_f (nI_ge (by omega) (by omega)) ?_
                intro z ez
                rw [ez, nI_1]
                refine hn _ (sw_bi_take hs hF ho ?_)
                unfold sw_key
                rw [hri]
                omega
          · exact br_f (sw_ne (by omega) (by omega) c3) (skip (fun q => c3 q.2.2))
        · exact br_f (by rw [nx_and, sw_e0 (by omega)]; exact c4) (skip (fun q => c4 ((hal _ ho).mp q.1).2))
      · have hle : sw_rev i &&& nd ≤ sw_rev i := Nat.and_le_left
        exact br_f (by rw [nx_and]; exact sw_ne (by omega) (by omega) c1) (skip (fun q => c1 q.2.1))
    · exact br_f (by rw [sw_andn ho hp, sw_e0 (Nat.lt_trans (sw_and_lt ho) (by decide)), sw_subN ho]; exact c2) (skip (fun q => c2 ((hal _ ho).mp q.1).1))
end
end
section
/-! reachability: X's five rounds and Y's six give the same least closed set -/
def sw_cl (a b : Nat → Nat) (x : Nat) (C : Nat → Bool) : Prop := ∀ s, s < 10 → x.testBit s = true → C (a s) = C (b s)
theorem sw_e_bit (a b : Nat → Nat) (s i : Nat) : (sw_e a b s).testBit i = (decide (a s = i) || decide (b s = i)) := by
  unfold sw_e
  rw [Nat.testBit_or, sw_pbit, sw_pbit]
theorem sw_e_a (a b : Nat → Nat) (s : Nat) : (sw_e a b s).testBit (a s) = true := by rw [sw_e_bit]; simp
theorem sw_e_b (a b : Nat → Nat) (s : Nat) : (sw_e a b s).testBit (b s) = true := by rw [sw_e_bit]; simp
theorem sw_meet {r e i : Nat} (h1 : r.testBit i = true) (h2 : e.testBit i = true) : r &&& e ≠ 0 := by
  intro h
  have q := congrArg (fun y => Nat.testBit y i) h
  simp only [Nat.testBit_and, Nat.zero_testBit, h1, h2] at q
  exact absurd q (by decide)
theorem sw_meet' {r e : Nat} (h : r &&& e ≠ 0) : ∃ i, r.testBit i = true ∧ e.testBit i = true := by
  obtain ⟨i, hi⟩ := Nat.exists_testBit_of_ne_zero h
  rw [Nat.testBit_and, Bool.and_eq_true] at hi
  exact ⟨i, hi⟩
section
variable {a b : Nat → Nat} {x r : Nat} {C : Nat → Bool}
theorem sw_st_ge (s : Nat) : sw_sub r (sw_st a b x s r) := by
  intro i hi
  unfold sw_st
  split
  · rw [Nat.testBit_or, hi]; rfl
  · exact hi
theorem sw_sp_ge : ∀ k, sw_sub r (sw_sp a b x r k)
  | 0 => fun i hi => hi
  | k + 1 => fun i hi => sw_st_ge k i (sw_sp_ge k i hi)
theorem sw_sp_mono (k : Nat) : ∀ d, sw_sub (sw_sp a b x r k) (sw_sp a b x r (k + d))
  | 0 => fun i hi => hi
  | d + 1 => fun i hi => sw_st_ge (k + d) i (sw_sp_mono k d i hi)
theorem sw_rd_ge : ∀ k, sw_sub r (sw_rd a b x r k)
  | 0 => fun i hi => hi
  | k + 1 => fun i hi => sw_sp_ge 10 i (sw_rd_ge k i hi)
theorem sw_st_in (hC : sw_cl a b x C) {s : Nat} (hs : s < 10) (h : ∀ i, r.testBit i = true → C i = true) : ∀ i, (sw_st a b x s r).testBit i = true → C i = true := by
  intro i
  unfold sw_st
  split
  · rename_i q
    intro hi
    obtain ⟨j, hj, hje⟩ := sw_meet' q.2
    have hCj := h j hj
    have hcl := hC s hs q.1
    rw [sw_e_bit, Bool.or_eq_true, decide_eq_true_eq, decide_eq_true_eq] at hje
    rw [Nat.testBit_or, Bool.or_eq_true, sw_e_bit, Bool.or_eq_true, decide_eq_true_eq, decide_eq_true_eq] at hi
    rcases hi with hi | hi | hi
    · exact h i hi
    · subst hi
      rcases hje with e | e
      · rw [e]; exact hCj
      · rw [hcl, e]; exact hCj
    · subst hi
      rcases hje with e | e
      · rw [← hcl, e]; exact hCj
      · rw [e]; exact hCj
  · exact h i
theorem sw_sp_in (hC : sw_cl a b x C) (h : ∀ i, r.testBit i = true → C i = true) : ∀ k, k ≤ 10 → ∀ i, (sw_sp a b x r k).testBit i = true → C i = true
  | 0, _ => h
  | k + 1, hk => sw_st_in hC (by omega) (sw_sp_in hC h k (by omega))
theorem sw_rd_in (hC : sw_cl a b x C) (h : ∀ i, r.testBit i = true → C i = true) : ∀ k, ∀ i, (sw_rd a b x r k).testBit i = true → C i = true
  | 0 => h
  | k + 1 => sw_sp_in hC (sw_rd_in hC h k) 10 (by omega)
theorem sw_sub_anti {y z : Nat} (h1 : sw_sub y z) (h2 : sw_sub z y) : y = z := by
  apply Nat.eq_of_testBit_eq
  intro i
  cases q : y.testBit i with
  | true => rw [h1 i q]
  | false =>
    cases w : z.testBit i with
    | true => rw [h2 i w] at q; exact absurd q (by decide)
    | false => rfl
theorem sw_fix_cl (h : sw_sp a b x r 10 = r) : sw_cl a b x (fun i => r.testBit i) := by
  have hk : ∀ k, k ≤ 10 → sw_sp a b x r k = r := by
    intro k hk
    apply sw_sub_anti
    · intro i hi
      have q := sw_sp_mono (a := a) (b := b) (x := x) (r := r) k (10 - k) i hi
      rw [show k + (10 - k) = 10 by omega, h] at q
      exact q
    · exact sw_sp_ge k
  intro s hs hx
  have h1 := hk s (by omega)
  have h2 := hk (s + 1) (by omega)
  rw [sw_sp, h1] at h2
  have key : r &&& sw_e a b s ≠ 0 → ∀ i, (sw_e a b s).testBit i = true → r.testBit i = true := by
    intro q i hi
    unfold sw_st at h2
    rw [if_pos ⟨hx, q⟩] at h2
    rw [← h2, Nat.testBit_or, hi, Bool.or_true]
  show r.testBit (a s) = r.testBit (b s)
  cases q : r.testBit (a s) with
  | true => rw [key (sw_meet q (sw_e_a a b s)) _ (sw_e_b a b s)]
  | false =>
    cases w : r.testBit (b s) with
    | true => rw [key (sw_meet w (sw_e_b a b s)) _ (sw_e_a a b s)] at q; exact absurd q (by decide)
    | false => rfl
end
theorem sw_grow : ∀ r, r < 64 → ∀ q, q < 64 → r &&& q = r → r ≠ q → sw_sz r 6 < sw_sz q 6 := by decide +kernel
theorem sw_full : ∀ r, r < 64 → 6 ≤ sw_sz r 6 → r = 63 := by decide +kernel
theorem sw_none : ∀ r, r < 64 → sw_sz r 6 = 0 → r = 0 := by decide +kernel
theorem sw_or63 : ∀ e, e < 64 → 63 ||| e = 63 := by decide +kernel
theorem sw_sub_and {y z : Nat} (h : sw_sub y z) : y &&& z = y := by
  apply Nat.eq_of_testBit_eq
  intro i
  rw [Nat.testBit_and]
  cases q : y.testBit i with
  | true => rw [h i q]; rfl
  | false => rfl
section
variable {a b : Nat → Nat} {x r : Nat}
theorem sw_sp_63 (hC : sw_C a b) : ∀ k, sw_sp a b x 63 k = 63
  | 0 => rfl
  | k + 1 => by
    rw [sw_sp, sw_sp_63 hC k]
    unfold sw_st
    split
    · exact sw_or63 _ (sw_e64 hC k)
    · rfl
theorem sw_sp_0 : ∀ k, sw_sp a b x 0 k = 0
  | 0 => rfl
  | k + 1 => by
    rw [sw_sp, sw_sp_0 k]
    unfold sw_st
    simp
theorem sw_rd_0 : ∀ k, sw_rd a b x 0 k = 0
  | 0 => rfl
  | k + 1 => by rw [sw_rd, sw_rd_0 k, sw_sp_0]
theorem sw_rd_cnt (hC : sw_C a b) (hr : r < 64) : ∀ k, sw_sp a b x (sw_rd a b x r k) 10 = sw_rd a b x r k ∨ k + sw_sz r 6 ≤ sw_sz (sw_rd a b x r k) 6
  | 0 => Or.inr (by rw [Nat.zero_add]; exact Nat.le_refl _)
  | k + 1 => by
    rcases sw_rd_cnt hC hr k with h | h
    · left
      rw [sw_rd, h, h]
    · by_cases e : sw_sp a b x (sw_rd a b x r k) 10 = sw_rd a b x r k
      · left
        rw [sw_rd, e, e]
      · right
        have q := sw_grow _ (sw_rd64 hC x hr k) _ (sw_sp64 hC x (sw_rd64 hC x hr k) 10) (sw_sub_and (sw_sp_ge 10)) (fun z => e z.symm)
        rw [sw_rd]
        omega
theorem sw_rd_fix (hC : sw_C a b) (hr : r < 64) : sw_sp a b x (sw_rd a b x r 5) 10 = sw_rd a b x r 5 := by
  rcases sw_rd_cnt (x := x) hC hr 5 with h | h
  · exact h
  · by_cases z : sw_sz r 6 = 0
    · rw [sw_none r hr z, sw_rd_0, sw_sp_0]
    · rw [sw_full _ (sw_rd64 hC x hr 5) (by omega), sw_sp_63 hC]
theorem sw_rd_6 (hC : sw_C a b) (hr : r < 64) : sw_rd a b x r 6 = sw_rd a b x r 5 := by
  rw [sw_rd]
  exact sw_rd_fix hC hr
theorem sw_rd_cl (hC : sw_C a b) (hr : r < 64) : sw_cl a b x (fun i => (sw_rd a b x r 5).testBit i) := sw_fix_cl (sw_rd_fix hC hr)
theorem sw_co_bit : ∀ k i, (sw_co a b x k).testBit i = true ↔ ∃ s, s < k ∧ x.testBit s = true ∧ (a s = i ∨ b s = i)
  | 0, i => by simp [sw_co]
  | k + 1, i => by
    have ih := sw_co_bit k i
    unfold sw_co
    constructor
    · intro h
      split at h
      · rename_i hx
        rw [Nat.testBit_or, Bool.or_eq_true, ih, sw_e_bit, Bool.or_eq_true, decide_eq_true_eq, decide_eq_true_eq] at h
        rcases h with ⟨s, hs, h⟩ | h
        · exact ⟨s, by omega, h⟩
        · exact ⟨k, by omega, hx, h⟩
      · rw [ih] at h
        obtain ⟨s, hs, h⟩ := h
        exact ⟨s, by omega, h⟩
    · rintro ⟨s, hs, hx, h⟩
      rcases Nat.lt_or_ge s k with q | q
      · have w := ih.mpr ⟨s, q, hx, h⟩
        split
        · rw [Nat.testBit_or, w]; rfl
        · exact w
      · obtain rfl : s = k := by omega
        rw [if_pos hx, Nat.testBit_or, Bool.or_eq_true, sw_e_bit, Bool.or_eq_true, decide_eq_true_eq, decide_eq_true_eq]
        exact Or.inr h
/-- all that is left can be reached: X's test and Y's -/
theorem sw_walk_iff {c : Nat} (hC : sw_C a b) (hc : c < 6) : sw_sub (sw_co a b x 10) (sw_rd a b x (2 ^ c) 5) ↔ sw_af a x (sw_rd a b x (2 ^ c) 6) 10 = true := by
  have hr := sw_p64 c hc
  rw [sw_rd_6 hC hr, sw_af_iff]
  have hcl := sw_rd_cl (x := x) hC hr
  constructor
  · intro h s hs hx
    exact h _ ((sw_co_bit 10 _).mpr ⟨s, hs, hx, Or.inl rfl⟩)
  · intro h i hi
    obtain ⟨s, hs, hx, e⟩ := (sw_co_bit 10 i).mp hi
    have q := h s hs hx
    rcases e with e | e
    · rw [← e]; exact q
    · have w : (sw_rd a b x (2 ^ c) 5).testBit (a s) = (sw_rd a b x (2 ^ c) 5).testBit (b s) := hcl s hs hx
      rw [← e, ← w]; exact q
theorem sw_conn_iff {c s0 : Nat} (hC : sw_C a b) (hc : (sw_co a b x 10).testBit c = true) (hc6 : c < 6) (hs0 : s0 < 10) (hx0 : x.testBit s0 = true) : sw_rd a b x (2 ^ c) 5 = sw_co a b x 10 ↔ sw_af a x (sw_rd a b x (2 ^ a s0) 6) 10 = true := by
  rw [← sw_walk_iff hC (hC.1 s0)]
  have r1 := sw_p64 c hc6
  have r2 := sw_p64 _ (hC.1 s0)
  have cl1 := sw_rd_cl (x := x) hC r1
  have cl2 := sw_rd_cl (x := x) hC r2
  have in1 : (sw_rd a b x (2 ^ c) 5).testBit c = true := sw_rd_ge 5 c (by rw [sw_pbit]; simp)
  have in2 : (sw_rd a b x (2 ^ a s0) 5).testBit (a s0) = true := sw_rd_ge 5 _ (by rw [sw_pbit]; simp)
  have one : ∀ {j : Nat} {D : Nat → Bool}, D j = true → ∀ i, (2 ^ j).testBit i = true → D i = true := by
    intro j D hj i hi
    rw [sw_pbit, decide_eq_true_eq] at hi
    rw [← hi]; exact hj
  have le1 : ∀ D : Nat → Bool, sw_cl a b x D → D c = true → ∀ i, (sw_rd a b x (2 ^ c) 5).testBit i = true → D i = true := fun D hD h => sw_rd_in hD (one h) 5
  have le2 : ∀ D : Nat → Bool, sw_cl a b x D → D (a s0) = true → ∀ i, (sw_rd a b x (2 ^ a s0) 5).testBit i = true → D i = true := fun D hD h => sw_rd_in hD (one h) 5
  have clK : sw_cl a b x (fun i => (sw_co a b x 10).testBit i) := by
    intro s hs hx
    show (sw_co a b x 10).testBit (a s) = (sw_co a b x 10).testBit (b s)
    rw [(sw_co_bit 10 _).mpr ⟨s, hs, hx, Or.inl rfl⟩, (sw_co_bit 10 _).mpr ⟨s, hs, hx, Or.inr rfl⟩]
  have ncl : ∀ {D : Nat → Bool}, sw_cl a b x D → sw_cl a b x (fun i => !D i) := by
    intro D hD s hs hx
    show (!D (a s)) = (!D (b s))
    rw [hD s hs hx]
  have K0 : (sw_co a b x 10).testBit (a s0) = true := (sw_co_bit 10 _).mpr ⟨s0, hs0, hx0, Or.inl rfl⟩
  have sub1 : sw_sub (sw_rd a b x (2 ^ c) 5) (sw_co a b x 10) := le1 _ clK hc
  generalize sw_rd a b x (2 ^ c) 5 = R at *
  generalize sw_rd a b x (2 ^ a s0) 5 = Q at *
  generalize sw_co a b x 10 = K at *
  constructor
  · intro e
    subst e
    have hcQ : Q.testBit c = true := by
      cases w : Q.testBit c with
      | true => rfl
      | false =>
        have z := le1 _ (ncl cl2) (show (!Q.testBit c) = true by rw [w]; rfl) _ K0
        have z : (!Q.testBit (a s0)) = true := z
        rw [in2] at z
        exact absurd z (by decide)
    exact le1 _ cl2 hcQ
  · intro h
    have h0R : R.testBit (a s0) = true := by
      cases w : R.testBit (a s0) with
      | true => rfl
      | false =>
        have z := le2 _ (ncl cl1) (show (!R.testBit (a s0)) = true by rw [w]; rfl) _ (h c hc)
        have z : (!R.testBit c) = true := z
        rw [in1] at z
        exact absurd z (by decide)
    apply sw_sub_anti sub1
    intro i hi
    exact le2 _ cl1 h0R i (h i hi)
end
end
section
/-! connected, canWalkAll, and the small tests on both sides -/
def sw_con (a b : Nat → Nat) (p : Nat) : Prop := ∀ s, s < 10 → p.testBit s = true → sw_af a p (sw_rd a b p (2 ^ a s) 6) 10 = true
theorem sw_lt6 {x i : Nat} (hx : x < 64) (h : x.testBit i = true) : i < 6 := by
  rcases Nat.lt_or_ge i 6 with g | g
  · exact g
  · rw [Nat.testBit_lt_two_pow (Nat.lt_of_lt_of_le hx (show 2 ^ 6 ≤ 2 ^ i from Nat.pow_le_pow_right (by decide) g))] at h
    exact absurd h (by decide)
section
variable {a b l : Nat → Nat} {p : Nat}
theorem sw_con_iff {c : Nat} (hC : sw_C a b) (hc : (sw_co a b p 10).testBit c = true) : sw_rd a b p (2 ^ c) 5 = sw_co a b p 10 ↔ sw_con a b p := by
  have hc6 := sw_lt6 (sw_co64 hC p 10) hc
  constructor
  · intro h s hs hx
    exact (sw_conn_iff hC hc hc6 hs hx).mp h
  · intro h
    obtain ⟨s, hs, hx, _⟩ := (sw_co_bit 10 c).mp hc
    exact (sw_conn_iff hC hc hc6 hs hx).mpr (h s hs hx)
theorem sw_con_af {s : Nat} (hC : sw_C a b) (hs : s < 10) (hx : p.testBit s = true) : sw_af a p (sw_rd a b p (2 ^ a s) 6) 10 = true ↔ sw_con a b p := by
  have hc : (sw_co a b p 10).testBit (a s) = true := (sw_co_bit 10 _).mpr ⟨s, hs, hx, Or.inl rfl⟩
  rw [← sw_con_iff hC hc, sw_conn_iff hC hc (hC.1 s) hs hx]
end
section
variable {post : Int32 → Prop} {P : Int32} {a b l : Nat → Nat} {A B L D T F N : Nat → Int32} {p x : Nat}
theorem sw_xconn (hC : sw_C a b) (hp : p < 1024) (h1 : sw_con a b p → post 1) (h0 : ¬ sw_con a b p → post 0) : wpX_connected post (nI p, sw_na a, sw_na b, L, D) := by
  refine sw_xcorn hC hp ?_
  have hK := sw_co64 hC p 10
  intro y ey
  by_cases hz : sw_co a b p 10 = 0
  · rw [hz] at ey ⊢
    have ey : y = nI 0 := ey.trans (by decide)
    subst ey
    refine sw_xreach hC hp (by decide) ?_
    rw [sw_rd_0]
    refine br_t rfl (h1 ?_)
    intro s hs hx
    have q : (sw_co a b p 10).testBit (a s) = true := (sw_co_bit 10 _).mpr ⟨s, hs, hx, Or.inl rfl⟩
    rw [hz, Nat.zero_testBit] at q
    exact absurd q (by decide)
  · have hK2 : sw_co a b p 10 < 1024 := by omega
    have hb := sw_low_bit _ hK2 hz
    rw [sw_lowI _ hK2 hz] at ey
    subst ey
    have h6 := sw_lt6 hK hb
    have h64 := sw_p64 _ h6
    refine sw_xreach hC hp h64 ?_
    have hR := sw_rd64 hC p h64 5
    have hi := sw_con_iff hC hb
    by_cases e : sw_rd a b p (2 ^ sw_low (sw_co a b p 10)) 5 = sw_co a b p 10
    · exact br_t (by rw [e]) (h1 (hi.mp e))
    · exact br_f (sw_ne (by omega) (by omega) e) (h0 (fun q => e (hi.mpr q)))
theorem sw_yconn (hC : sw_C a b) (hp : p < 1024) (h1 : sw_con a b p → post 1) (h0 : ¬ sw_con a b p → post 0) : wpY_connected post (sw_na (sw_tb p), sw_na a, sw_na b, L, F, N) := by
  refine sw_ystreets hp ?_
  refine loop_0 (fun n i (_ : Unit) => wY_connected_7 post (nI p) (sw_na (sw_tb p)) (sw_na a) (sw_na b) L F N n (nI i)) (fun i _ => ∀ j, j < i → p.testBit j = false) 10 () (fun j hj => absurd hj (Nat.not_lt_zero j)) ?_ ?_
  · intro n _ hs
    refine br_t (by decide) (h1 ?_)
    intro s hs' hx
    rw [hs s hs'] at hx
    exact absurd hx (by decide)
  · intro n i _ hi hs hn
    refine br_f (nI_ge (b := 10) hi (by decide)) ⟨vp_in_nI hi (by decide), ?_⟩
    rw [sw_at _ (by omega)]
    cases hb : p.testBit i with
    | false =>
      refine br_t (by simp [sw_tb, hb]; rfl) ?_
      intro z ez
      rw [ez, nI_1]
      refine hn () ?_
      intro j hj
      rcases Nat.lt_or_ge j i with q | q
      · exact hs j q
      · obtain rfl : j = i := by omega
        exact hb
    | true =>
      refine br_f (by simp [sw_tb, hb]; decide) ⟨vp_in_nI hi (by decide), ?_⟩
      rw [sw_at a (by omega)]
      refine sw_yallFrom hC hp (hC.1 i) ?_
      have hi2 := sw_con_af hC hi hb
      refine ⟨sw_nar _, ?_⟩
      by_cases e : sw_con a b p
      · rw [if_pos (hi2.mpr e)]; exact h1 e
      · rw [if_neg (fun q => e (hi2.mp q))]; exact h0 e
theorem sw_xwalk {c : Nat} (hC : sw_C a b) (hx : x < 1024) (hc : c < 6) (h : post (if sw_af a x (sw_rd a b x (2 ^ c) 6) 10 = true then 1 else 0)) : wpX_canWalkAll post (P, sw_na a, sw_na b, L, D) (nI c) (nI x) := by
  refine sw_xcorn hC hx ?_
  rw [sw_shl c (by omega)]
  have h64 := sw_p64 c hc
  refine sw_xreach hC hx h64 ?_
  have hK := sw_co64 hC x 10
  have hR := sw_rd64 hC x h64 5
  have hi := sw_walk_iff (x := x) hC hc
  have hK2 : sw_co a b x 10 < 1024 := by omega
  have hand : nI (sw_co a b x 10) &&& (nI (sw_rd a b x (2 ^ c) 5) ^^^ (-1)) = 0 ↔ sw_sub (sw_co a b x 10) (sw_rd a b x (2 ^ c) 5) := by
    rw [sw_andn hK2 (by omega), sw_e0 (Nat.lt_trans (sw_and_lt hK2) (by decide)), sw_subN hK2]
  by_cases e : sw_sub (sw_co a b x 10) (sw_rd a b x (2 ^ c) 5)
  · rw [if_pos (hi.mp e)] at h
    exact br_t (hand.mpr e) h
  · rw [if_neg (fun q => e (hi.mpr q))] at h
    exact br_f (fun q => e (hand.mp q)) h
def sw_isC (y : Int32) : Prop := ∃ j, j < 6 ∧ y = nI j
def sw_isL (y : Int32) : Prop := ∃ j, j ≤ 20 ∧ y = nI j
def sw_isS (p : Nat) (y : Int32) : Prop := ∃ j, j < 10 ∧ y = nI j ∧ p.testBit j = true
theorem sw_rng {A1 A2 A3 : Prop} {y : Int32} (n : Nat) (hn : n < 2 ^ 31) (h1 : (∃ j, j < n ∧ y = nI j) → A3) (h0 : (¬ ∃ j, j < n ∧ y = nI j) → A1 ∧ A2) : (y < 0 → A1) ∧ (¬ y < 0 → ((nI n ≤ y → A2) ∧ (¬ nI n ≤ y → A3))) := by
  rcases pk_ix y hn with q | q | ⟨j, hj, rfl⟩
  · refine br_t q (h0 ?_).1
    rintro ⟨j, hj, rfl⟩
    exact absurd q (nI_pos (by omega))
  · refine br_c (fun z => (h0 ?_).1) (fun z => br_t q (h0 ?_).2)
    · rintro ⟨j, hj, rfl⟩
      exact absurd q (nI_ge hj hn)
    · rintro ⟨j, hj, rfl⟩
      exact absurd q (nI_ge hj hn)
  · exact br_f (nI_pos (by omega)) (br_f (nI_ge hj hn) (h1 ⟨j, hj, rfl⟩))
theorem sw_xisC {u : SX} {y : Int32} (h1 : sw_isC y → post 1) (h0 : ¬ sw_isC y → post 0) : wpX_isCorner post u y := by
  obtain ⟨P, A, B, L, D⟩ := u
  exact sw_rng 6 (by decide) h1 (fun q => ⟨h0 q, h0 q⟩)
theorem sw_yisC {v : SY} {y : Int32} (h1 : sw_isC y → post 1) (h0 : ¬ sw_isC y → post 0) : wpY_corner post v y := by
  obtain ⟨T, A, B, L, F, N⟩ := v
  exact sw_rng 6 (by decide) h1 (fun q => ⟨h0 q, h0 q⟩)
theorem sw_lenrng {A1 A2 A3 : Prop} {y : Int32} (h1 : sw_isL y → A3) (h0 : ¬ sw_isL y → A1 ∧ A2) : (y < 0 → A1) ∧ (¬ y < 0 → ((20 < y → A2) ∧ (¬ 20 < y → A3))) := by
  rcases pk_ix y (n := 21) (by decide) with q | q | ⟨j, hj, rfl⟩
  · refine br_t q (h0 ?_).1
    rintro ⟨j, hj, rfl⟩
    exact absurd q (nI_pos (by omega))
  · have hno : ¬ sw_isL y := by
      rintro ⟨j, hj, rfl⟩
      exact absurd q (nI_ge (by omega) (by decide))
    refine br_c (fun z => (h0 hno).1) (fun z => br_t ?_ (h0 hno).2)
    exact Int32.lt_of_lt_of_le (by decide : (20 : Int32) < nI 21) q
  · exact br_f (nI_pos (by omega)) (br_f (nI_nlt (b := j) (a := 20) (by omega) (by decide)) (h1 ⟨j, by omega, rfl⟩))
theorem sw_lenrng2 {A1 A2 A3 : Prop} {y : Int32} (h1 : sw_isL y → A3) (h0 : ¬ sw_isL y → A1 ∧ A2) : (y < 0 → A1) ∧ (¬ y < 0 → ((y ≤ 20 → A3) ∧ (¬ y ≤ 20 → A2))) := by
  rcases pk_ix y (n := 21) (by decide) with q | q | ⟨j, hj, rfl⟩
  · refine br_t q (h0 ?_).1
    rintro ⟨j, hj, rfl⟩
    exact absurd q (nI_pos (by omega))
  · have hno : ¬ sw_isL y := by
      rintro ⟨j, hj, rfl⟩
      exact absurd q (nI_ge (by omega) (by decide))
    refine br_c (fun z => (h0 hno).1) (fun z => br_f ?_ (h0 hno).2)
    exact Int32.not_le.mpr (Int32.lt_of_lt_of_le (by decide : (20 : Int32) < nI 21) q)
  · exact br_f (nI_pos (by omega)) (br_t (nI_le (b := 20) (by omega) (by decide)) (h1 ⟨j, by omega, rfl⟩))
theorem sw_xisL {u : SX} {y : Int32} (h1 : sw_isL y → post 1) (h0 : ¬ sw_isL y → post 0) : wpX_isLength post u y := by
  obtain ⟨P, A, B, L, D⟩ := u
  exact sw_lenrng h1 (fun q => ⟨h0 q, h0 q⟩)
theorem sw_xisS {y : Int32} (hp : p < 1024) (h1 : sw_isS p y → post 1) (h0 : ¬ sw_isS p y → post 0) : wpX_isStreet post (nI p, A, B, L, D) y := by
  refine sw_rng 10 (by decide) ?_ ?_
  · rintro ⟨j, hj, rfl⟩
    refine sw_xcont (by omega) (by omega) (fun hb => br_f (by decide) (h1 ⟨j, hj, rfl, hb⟩)) (fun hb => br_t rfl (h0 ?_))
    rintro ⟨i, hi, e, hb'⟩
    rw [nI_eq (by omega) (by omega)] at e
    subst e
    rw [hb] at hb'
    exact absurd hb' (by decide)
  · intro q
    have hno : ¬ sw_isS p y := fun ⟨j, hj, e, _⟩ => q ⟨j, hj, e⟩
    exact ⟨h0 hno, h0 hno⟩
theorem sw_yisS {y : Int32} (h1 : sw_isS p y → post 1) (h0 : ¬ sw_isS p y → post 0) : wpY_street post (sw_na (sw_tb p), A, B, L, F, N) y := by
  refine sw_rng 10 (by decide) ?_ ?_
  · rintro ⟨j, hj, rfl⟩
    refine ⟨vp_in_nI hj (by decide), ?_⟩
    rw [sw_at _ (by omega)]
    cases hb : p.testBit j with
    | true => exact br_f (by simp [sw_tb, hb]; decide) (h1 ⟨j, hj, rfl, hb⟩)
    | false =>
      refine br_t (by simp [sw_tb, hb]; rfl) (h0 ?_)
      rintro ⟨i, hi, e, hb'⟩
      rw [nI_eq (by omega) (by omega)] at e
      subst e
      rw [hb] at hb'
      exact absurd hb' (by decide)
  · intro q
    have hno : ¬ sw_isS p y := fun ⟨j, hj, e, _⟩ => q ⟨j, hj, e⟩
    exact ⟨h0 hno, h0 hno⟩
end
end
section
/-! the relation, and the methods without a way or a walk -/
def sw_G (p : Nat) (a b l : Nat → Nat) : Prop := p < 1024 ∧ sw_C a b ∧ (∀ s, l s ≤ 20) ∧ (∀ s, p.testBit s = true → a s ≠ b s)
/-- the relation at the head of a turn whose first cell is k: both hold one town; what X keeps in distances and Y in left and near is free -/
def i_Rel (_ : Nat) (u : SX) (v : SY) : Prop := ∃ (p : Nat) (a b l : Nat → Nat) (D F N : Nat → Int32), u = (nI p, sw_na a, sw_na b, sw_na l, D) ∧ v = (sw_na (sw_tb p), sw_na a, sw_na b, sw_na l, F, N) ∧ sw_G p a b l
theorem i_up {k : Nat} {u : SX} {v : SY} (h : i_Rel k u v) : i_Rel (k + 4) u v := h
theorem sw_rel {k p : Nat} {a b l : Nat → Nat} {D F N : Nat → Int32} (G : sw_G p a b l) : i_Rel k (nI p, sw_na a, sw_na b, sw_na l, D) (sw_na (sw_tb p), sw_na a, sw_na b, sw_na l, F, N) := ⟨p, a, b, l, D, F, N, rfl, rfl, G⟩
theorem sw_tb0 : sw_na (sw_tb 0) = fun _ => 0 := by
  funext s
  simp [sw_na, sw_tb, nI_0]
theorem i_vc0 : wpX_init (fun u => wpY_init (fun v => i_Rel 0 u v)) := by
  refine ⟨0, fun _ => 0, fun _ => 0, fun _ => 0, fun _ => 0, fun _ => 0, fun _ => 0, rfl, ?_, by decide, ⟨fun s => (show 0 < 6 from by decide), fun s => (show 0 < 6 from by decide)⟩, fun s => (show 0 ≤ 20 from by decide), fun s hs => ?_⟩
  · rw [sw_tb0]; rfl
  · rw [Nat.zero_testBit] at hs; exact absurd hs (by decide)
theorem sw_tb_set (p s : Nat) : sw_up (sw_tb p) s 1 = sw_tb (p ||| 2 ^ s) := by
  funext i
  unfold sw_up sw_tb
  rw [sw_set_bit]
  by_cases e : i = s
  · subst e; simp
  · have e2 : ¬ s = i := fun q => e q.symm
    simp [e, e2]
theorem sw_tb_clr {p s : Nat} (hp : p < 1024) : sw_up (sw_tb p) s 0 = sw_tb (sw_clr p s) := by
  funext i
  unfold sw_up sw_tb
  rw [sw_clr_bit hp]
  by_cases e : i = s
  · subst e; simp
  · have e2 : ¬ s = i := fun q => e q.symm
    simp [e, e2]
section
variable {a b l : Nat → Nat} {D F N : Nat → Int32} {p i j m : Nat}
theorem sw_xbuild {post : Int32 → SX → Prop} (hp : p < 1024) (h : ∀ s, s < 10 → p.testBit s = false → (∀ j, j < s → p.testBit j = true) → post (nI s) (nI (p ||| 2 ^ s), sw_na (sw_up a s i), sw_na (sw_up b s j), sw_na (sw_up l s m), D)) (hf : (∀ j, j < 10 → p.testBit j = true) → post (-2) (nI p, sw_na a, sw_na b, sw_na l, D)) : ∃ n, wX_build_34 post (nI i) (nI j) (nI m) (nI p) (sw_na a) (sw_na b) (sw_na l) D n 0 := by
  refine loop_0 (fun n i' (_ : Unit) => wX_build_34 post (nI i) (nI j) (nI m) (nI p) (sw_na a) (sw_na b) (sw_na l) D n (nI i')) (fun i _ => ∀ j, j < i → p.testBit j = true) 10 () (fun j hj => absurd hj (Nat.not_lt_zero j)) ?_ ?_
  · intro n _ hs
    exact br_t (by decide) (hf hs)
  · intro n s _ hi hs hn
    refine br_f (nI_ge (b := 10) hi (by decide)) ?_
    refine sw_xcont (by omega) (by omega) (fun hb => br_f (by decide) ?_) (fun hb => br_t rfl ?_)
    · intro z ez
      rw [ez, nI_1]
      refine hn () ?_
      intro j hj
      rcases Nat.lt_or_ge j s with q | q
      · exact hs j q
      · obtain rfl : j = s := by omega
        exact hb
    · refine ⟨vp_in_nI hi (by decide), fun y1 e1 => ⟨vp_in_nI hi (by decide), fun y2 e2 => ⟨vp_in_nI hi (by decide), fun y3 e3 => fun y4 e4 => ?_⟩⟩⟩
      rw [sw_upd _ (by omega)] at e1 e2 e3
      rw [sw_setI _ hi] at e4
      rw [e1, e2, e3, e4]
      exact h s hi hb hs
theorem sw_ybuild {post : Int32 → SY → Prop} (h : ∀ s, s < 10 → p.testBit s = false → (∀ j, j < s → p.testBit j = true) → post (nI s) (sw_na (sw_tb (p ||| 2 ^ s)), sw_na (sw_up a s i), sw_na (sw_up b s j), sw_na (sw_up l s m), F, N)) (hf : (∀ j, j < 10 → p.testBit j = true) → post (-2) (sw_na (sw_tb p), sw_na a, sw_na b, sw_na l, F, N)) : ∃ n, wY_build_36 post (nI i) (nI j) (nI m) (sw_na (sw_tb p)) (sw_na a) (sw_na b) (sw_na l) F N n 0 := by
  refine loop_0 (fun n i' (_ : Unit) => wY_build_36 post (nI i) (nI j) (nI m) (sw_na (sw_tb p)) (sw_na a) (sw_na b) (sw_na l) F N n (nI i')) (fun i _ => ∀ j, j < i → p.testBit j = true) 10 () (fun j hj => absurd hj (Nat.not_lt_zero j)) ?_ ?_
  · intro n _ hs
    exact br_t (by decide) (hf hs)
  · intro n s _ hi hs hn
    refine br_f (nI_ge (b := 10) hi (by decide)) ⟨vp_in_nI hi (by decide), ?_⟩
    rw [sw_at _ (by omega)]
    cases hb : p.testBit s with
    | true =>
      refine br_f (by simp [sw_tb, hb]; decide) ?_
      intro z ez
      rw [ez, nI_1]
      refine hn () ?_
      intro j hj
      rcases Nat.lt_or_ge j s with q | q
      · exact hs j q
      · obtain rfl : j = s := by omega
        exact hb
    | false =>
      refine br_t (by simp [sw_tb, hb]; rfl) ?_
      refine ⟨vp_in_nI hi (by decide), fun y0 e0 => ⟨vp_in_nI hi (by decide), fun y1 e1 => ⟨vp_in_nI hi (by decide), fun y2 e2 => ⟨vp_in_nI hi (by decide), fun y3 e3 => ?_⟩⟩⟩⟩
      rw [show vp_nar .boolean 1 = nI 1 from rfl, sw_upd _ (by omega), sw_tb_set] at e0
      rw [sw_upd _ (by omega)] at e1 e2 e3
      rw [e0, e1, e2, e3]
      exact h s hi hb hs
end
theorem sw_up_lt {a : Nat → Nat} {n s m : Nat} (h : ∀ i, a i < n) (hm : m < n) : ∀ i, sw_up a s m i < n := by
  intro i
  unfold sw_up
  split
  · exact hm
  · exact h i
theorem i_vc_build {k : Nat} {u : SX} {v : SY} (I : i_Rel k u v) (hk : k + 4 ≤ 2048) (v1 : Int32) (v2 : Int32) (v3 : Int32) : wpX_build (fun r u' => wpY_build (fun r' v' => r' = r ∧ i_Rel (k + 4) u' v') v v1 v2 v3) u v1 v2 v3 := by
  obtain ⟨p, a, b, l, D, F, N, rfl, rfl, G⟩ := I
  obtain ⟨hp, hC, hl, hne⟩ := id G
  by_cases h12 : v1 = v2
  · exact br_t h12 (br_t h12 ⟨rfl, sw_rel G⟩)
  · refine br_f h12 ?_
    refine sw_xisC (fun c1 => br_f (by decide) ?_) (fun c1 => br_t rfl ?_)
    · refine sw_xisC (fun c2 => br_f (by decide) ?_) (fun c2 => br_t rfl ?_)
      · refine sw_xisL (fun c3 => br_f (by decide) ?_) (fun c3 => br_t rfl ?_)
        · have hy : ∀ {Q : Int32 → SY → Prop}, (∃ n36 : Nat, wY_build_36 Q v1 v2 v3 (sw_na (sw_tb p)) (sw_na a) (sw_na b) (sw_na l) F N n36 0) → wpY_build Q (sw_na (sw_tb p), sw_na a, sw_na b, sw_na l, F, N) v1 v2 v3 := by
            intro Q hQ
            refine br_f h12 ?_
            refine sw_yisC (fun _ => br_f (by decide) ?_) (fun z => absurd c1 z)
            refine sw_yisC (fun _ => br_f (by decide) ?_) (fun z => absurd c2 z)
            exact sw_lenrng2 (fun _ => hQ) (fun z => absurd c3 z)
          obtain ⟨i, hi, rfl⟩ := c1
          obtain ⟨j, hj, rfl⟩ := c2
          obtain ⟨m, hm, rfl⟩ := c3
          have hij : i ≠ j := fun e => h12 (by rw [e])
          refine sw_xbuild hp ?_ ?_
          · intro s hs hb hmin
            refine hy (sw_ybuild ?_ ?_)
            · intro s' hs' hb' hmin'
              have e : s' = s := by
                rcases Nat.lt_trichotomy s' s with q | q | q
                · rw [hmin s' q] at hb'; exact absurd hb' (by decide)
                · exact q
                · rw [hmin' s q] at hb; exact absurd hb (by decide)
              subst e
              refine ⟨rfl, sw_rel ⟨sw_or_lt hp (sw_p1024 s' hs'), ⟨sw_up_lt hC.1 hi, sw_up_lt hC.2 hj⟩, ?_, ?_⟩⟩
              · intro t
                unfold sw_up
                split
                · exact hm
                · exact hl t
              · intro t ht
                unfold sw_up
                split
                · exact hij
                · rename_i q
                  rw [sw_set_bit, decide_eq_false (fun z => q z.symm), Bool.or_false] at ht
                  exact hne t ht
            · intro hfull
              rw [hfull s hs] at hb
              exact absurd hb (by decide)
          · intro hfull
            refine hy (sw_ybuild ?_ ?_)
            · intro s' hs' hb' _
              rw [hfull s' hs'] at hb'
              exact absurd hb' (by decide)
            · intro _
              exact ⟨rfl, sw_rel G⟩
        · refine br_f h12 ?_
          refine sw_yisC (fun _ => br_f (by decide) ?_) (fun z => absurd c1 z)
          refine sw_yisC (fun _ => br_f (by decide) ?_) (fun z => absurd c2 z)
          exact sw_lenrng2 (fun z => absurd z c3) (fun _ => ⟨⟨rfl, sw_rel G⟩, ⟨rfl, sw_rel G⟩⟩)
      · refine br_f h12 ?_
        refine sw_yisC (fun _ => br_f (by decide) ?_) (fun z => absurd c1 z)
        exact sw_yisC (fun z => absurd z c2) (fun z => br_t rfl ⟨rfl, sw_rel G⟩)
    · refine br_f h12 ?_
      exact sw_yisC (fun z => absurd z c1) (fun z => br_t rfl ⟨rfl, sw_rel G⟩)
theorem i_vc_close {k : Nat} {u : SX} {v : SY} (I : i_Rel k u v) (hk : k + 4 ≤ 2048) (v1 : Int32) : wpX_close (fun r u' => wpY_close (fun r' v' => r' = r ∧ i_Rel (k + 4) u' v') v v1) u v1 := by
  obtain ⟨p, a, b, l, D, F, N, rfl, rfl, G⟩ := I
  obtain ⟨hp, hC, hl, hne⟩ := id G
  unfold wpX_close wpY_close
  dsimp only
  refine sw_xisS hp (fun c => br_f (by decide) ?_) (fun c => br_t rfl ?_)
  · obtain ⟨j, hj, rfl, hb⟩ := id c
    intro y ey
    rw [sw_clrI hp hj] at ey
    subst ey
    refine sw_yisS (fun _ => br_f (by decide) ?_) (fun z => absurd c z)
    refine ⟨vp_in_nI hj (by decide), ?_⟩
    intro w ew
    rw [show vp_nar .boolean 0 = nI 0 from rfl, sw_upd _ (by omega), sw_tb_clr hp] at ew
    subst ew
    refine ⟨rfl, sw_rel ⟨sw_clr_lt hp, hC, hl, fun s hs => hne s ?_⟩⟩
    rw [sw_clr_bit hp, Bool.and_eq_true] at hs
    exact hs.1
  · exact sw_yisS (fun z => absurd z c) (fun z => br_t rfl ⟨rfl, sw_rel G⟩)
theorem i_vc_setLength {k : Nat} {u : SX} {v : SY} (I : i_Rel k u v) (hk : k + 4 ≤ 2048) (v1 : Int32) (v2 : Int32) : wpX_setLength (fun r u' => wpY_setLength (fun r' v' => r' = r ∧ i_Rel (k + 4) u' v') v v1 v2) u v1 v2 := by
  obtain ⟨p, a, b, l, D, F, N, rfl, rfl, G⟩ := I
  obtain ⟨hp, hC, hl, hne⟩ := id G
  unfold wpX_setLength wpY_setLength
  dsimp only
  refine sw_xisS hp (fun c => br_f (by decide) ?_) (fun c => br_t rfl ?_)
  · obtain ⟨j, hj, rfl, hb⟩ := id c
    refine sw_xisL (fun c3 => br_f (by decide) ?_) (fun c3 => br_t rfl ?_)
    · obtain ⟨m, hm, rfl⟩ := id c3
      refine ⟨vp_in_nI hj (by decide), ?_⟩
      intro y ey
      rw [sw_upd _ (by omega)] at ey
      subst ey
      refine sw_yisS (fun _ => br_f (by decide) ?_) (fun z => absurd c z)
      refine sw_lenrng2 (fun _ => ⟨vp_in_nI hj (by decide), ?_⟩) (fun z => absurd c3 z)
      intro w ew
      rw [sw_upd _ (by omega)] at ew
      subst ew
      refine ⟨rfl, sw_rel ⟨hp, hC, ?_, hne⟩⟩
      intro t
      unfold sw_up
      split
      · exact hm
      · exact hl t
    · refine sw_yisS (fun _ => br_f (by decide) ?_) (fun z => absurd c z)
      exact sw_lenrng2 (fun z => absurd z c3) (fun _ => ⟨⟨rfl, sw_rel G⟩, ⟨rfl, sw_rel G⟩⟩)
  · exact sw_yisS (fun z => absurd z c) (fun z => br_t rfl ⟨rfl, sw_rel G⟩)
theorem i_vc_streets {k : Nat} {u : SX} {v : SY} (I : i_Rel k u v) (hk : k + 4 ≤ 2048) : wpX_streets (fun r => wpY_streets (fun r' => r' = r ∧ i_Rel (k + 4) u v) v) u := by
  obtain ⟨p, a, b, l, D, F, N, rfl, rfl, G⟩ := I
  exact sw_ystreets G.1 ⟨rfl, sw_rel G⟩
theorem i_vc_odd {k : Nat} {u : SX} {v : SY} (I : i_Rel k u v) (hk : k + 4 ≤ 2048) : wpX_odd (fun r => wpY_odd (fun r' => r' = r ∧ i_Rel (k + 4) u v) v) u := by
  obtain ⟨p, a, b, l, D, F, N, rfl, rfl, G⟩ := I
  exact sw_xodd G.2.1 G.1 (sw_yodd G.2.1 G.1 G.2.2.2 ⟨rfl, sw_rel G⟩)
theorem i_vc_connected {k : Nat} {u : SX} {v : SY} (I : i_Rel k u v) (hk : k + 4 ≤ 2048) : wpX_connected (fun r => wpY_connected (fun r' => r' = r ∧ i_Rel (k + 4) u v) v) u := by
  obtain ⟨p, a, b, l, D, F, N, rfl, rfl, G⟩ := I
  exact sw_xconn G.2.1 G.1 (fun c => sw_yconn G.2.1 G.1 (fun _ => ⟨rfl, sw_rel G⟩) (fun z => absurd c z)) (fun c => sw_yconn G.2.1 G.1 (fun z => absurd z c) (fun _ => ⟨rfl, sw_rel G⟩))
end
section
/-! extra, bestSet, extraWith, extraWithout, walkLength -/
def sw_EX (Q : Nat → Prop) (l : Nat → Nat) (r : Int32) : Prop := ∃ r0, sw_best Q l r0 ∧ ((r0 = -1 ∧ r = -1) ∨ ∃ m, m < 1024 ∧ r0 = nI m ∧ r = nI (sw_len l m 10))
theorem sw_EX_u {Q : Nat → Prop} {l : Nat → Nat} {r r' : Int32} (h : sw_EX Q l r) (h' : sw_EX Q l r') : r' = r := by
  obtain ⟨r0, hb, h⟩ := h
  obtain ⟨r0', hb', h'⟩ := h'
  have e := sw_best_u hb hb'
  subst e
  rcases h with ⟨e, rfl⟩ | ⟨m, hm, e, rfl⟩
  · rcases h' with ⟨e', rfl⟩ | ⟨m', hm', e', rfl⟩
    · rfl
    · exact absurd (e'.symm.trans e) (sw_nm1 (by omega))
  · rcases h' with ⟨e', rfl⟩ | ⟨m', hm', e', rfl⟩
    · exact absurd (e.symm.trans e') (sw_nm1 (by omega))
    · have q := e'.symm.trans e
      rw [nI_eq (by omega) (by omega)] at q
      rw [q]
theorem sw_F_al {p : Nat} : ∀ s, s < 1024 → (sw_sub s p ↔ sw_sub s p ∧ s &&& 0 = 0) := fun s _ => ⟨fun h => ⟨h, Nat.and_zero s⟩, fun h => h.1⟩
theorem sw_F_wo {p j : Nat} (hp : p < 1024) : ∀ s, s < 1024 → (sw_sub s (sw_clr p j) ↔ sw_sub s p ∧ s &&& 2 ^ j = 0) := by
  intro s hs
  rw [sw_and2]
  constructor
  · intro h
    refine ⟨fun i hi => ?_, ?_⟩
    · have q := h i hi
      rw [sw_clr_bit hp, Bool.and_eq_true] at q
      exact q.1
    · rw [if_neg]
      intro hj
      have q := h j hj
      rw [sw_clr_bit hp] at q
      simp at q
  · rintro ⟨h, hj⟩ i hi
    rw [sw_clr_bit hp, h i hi]
    have e : ¬ j = i := by
      intro e
      subst e
      rw [if_pos hi] at hj
      have := Nat.two_pow_pos j
      omega
    simp [e]
section
variable {post : Int32 → Prop} {a b l : Nat → Nat} {D F N : Nat → Int32} {p nd al nv : Nat}
theorem sw_xex (G : sw_G p a b l) (hnd : nd < 1024) (hal : al < 1024) (h : ∀ r, sw_EX (sw_F a b p nd al) l r → post r) : wpX_bestAmong (fun r_8 => (wpX_lengthOrNone (fun r_14 => (post r_14)) (nI p, sw_na a, sw_na b, sw_na l, D) r_8)) (nI p, sw_na a, sw_na b, sw_na l, D) (nI nd) (nI al) := by
  refine sw_xbest G.2.1 G.2.2.1 G.1 hnd hal ?_
  intro r hr
  rcases id hr with ⟨rfl, _⟩ | ⟨m, hm, rfl, _⟩
  · exact br_t rfl (h _ ⟨_, hr, Or.inl ⟨rfl, rfl⟩⟩)
  · exact br_f (sw_nm1 (by omega)) (sw_xlen hm (h _ ⟨_, hr, Or.inr ⟨m, hm, rfl, rfl⟩⟩))
theorem sw_yex (G : sw_G p a b l) (hnd : nd < 1024) (hal : ∀ s, s < 1024 → (sw_sub s al ↔ sw_sub s p ∧ s &&& nv = 0)) (h : ∀ r, sw_EX (sw_F a b p nd al) l r → post r) : wpY_first (fun r_1 => (((0 ≤ r_1 → (wpY_lengthOf (fun r_9 => (post r_9)) (sw_na (sw_tb p), sw_na a, sw_na b, sw_na l, F, N) r_1)) ∧ (¬ 0 ≤ r_1 → (post (-1)))))) (sw_na (sw_tb p), sw_na a, sw_na b, sw_na l, F, N) (nI nd) (nI nv) := by
  refine sw_yfirst G.2.1 G.2.2.1 G.1 G.2.2.2 hnd hal ?_
  intro r hr
  rcases id hr with ⟨rfl, _⟩ | ⟨m, hm, rfl, _⟩
  · exact br_f (by decide) (h _ ⟨_, hr, Or.inl ⟨rfl, rfl⟩⟩)
  · exact br_t (nI_pos' (by omega)) (sw_ylen hm (h _ ⟨_, hr, Or.inr ⟨m, hm, rfl, rfl⟩⟩))
def sw_WL (a b l : Nat → Nat) (p : Nat) (r : Int32) : Prop := ∃ r0, sw_best (sw_F a b p 0 p) l r0 ∧ ((r = -1 ∧ (r0 = -1 ∨ ¬ sw_con a b p)) ∨ (sw_con a b p ∧ ∃ m, m < 1024 ∧ r0 = nI m ∧ r = nI (sw_len l p 10 + sw_len l m 10)))
theorem sw_WL_u {r r' : Int32} (h : sw_WL a b l p r) (h' : sw_WL a b l p r') : r' = r := by
  obtain ⟨r0, hb, h⟩ := h
  obtain ⟨r0', hb', h'⟩ := h'
  have e := sw_best_u hb hb'
  subst e
  rcases h with ⟨rfl, e⟩ | ⟨c, m, hm, e, rfl⟩
  · rcases h' with ⟨rfl, e'⟩ | ⟨c', m', hm', e', rfl⟩
    · rfl
    · rcases e with e | e
      · exact absurd (e'.symm.trans e) (sw_nm1 (by omega))
      · exact absurd c' e
  · rcases h' with ⟨rfl, e'⟩ | ⟨c', m', hm', e', rfl⟩
    · rcases e' with e' | e'
      · exact absurd (e.symm.trans e') (sw_nm1 (by omega))
      · exact absurd c e'
    · have q := e'.symm.trans e
      rw [nI_eq (by omega) (by omega)] at q
      rw [q]
theorem sw_xwl (G : sw_G p a b l) (h : ∀ r, sw_WL a b l p r → post r) : wpX_walkLength post (nI p, sw_na a, sw_na b, sw_na l, D) := by
  unfold wpX_walkLength
  dsimp only
  refine sw_xbest (nd := 0) G.2.1 G.2.2.1 G.1 (by decide) G.1 ?_
  intro r hr
  rcases id hr with ⟨rfl, _⟩ | ⟨m, hm, rfl, _⟩
  · exact br_t rfl (h _ ⟨_, hr, Or.inl ⟨rfl, Or.inl rfl⟩⟩)
  · refine br_f (sw_nm1 (by omega)) ?_
    refine sw_xconn G.2.1 G.1 (fun c => br_f (by decide) ?_) (fun c => br_t rfl (h _ ⟨_, hr, Or.inl ⟨rfl, Or.inr c⟩⟩))
    refine sw_xlen G.1 (sw_xlen hm ?_)
    rw [nI_add]
    exact h _ ⟨_, hr, Or.inr ⟨c, m, hm, rfl, rfl⟩⟩
theorem sw_yset (G : sw_G p a b l) (h : ∀ r, sw_best (sw_F a b p 0 p) l r → post r) : wpY_bestSet post (sw_na (sw_tb p), sw_na a, sw_na b, sw_na l, F, N) :=
  sw_yfirst (nd := 0) (nv := 0) (post := fun r => post r) G.2.1 G.2.2.1 G.1 G.2.2.2 (by decide) sw_F_al h
theorem sw_ywl (G : sw_G p a b l) (h : ∀ r, sw_WL a b l p r → post r) : wpY_walkLength post (sw_na (sw_tb p), sw_na a, sw_na b, sw_na l, F, N) := by
  unfold wpY_walkLength
  dsimp only
  refine sw_yset G ?_
  intro r hr
  refine sw_ystreets G.1 ?_
  rcases id hr with ⟨rfl, _⟩ | ⟨m, hm, rfl, _⟩
  · exact br_t (by decide) (h _ ⟨_, hr, Or.inl ⟨rfl, Or.inl rfl⟩⟩)
  · refine br_f (nI_pos (by omega)) ?_
    refine sw_yconn G.2.1 G.1 (fun c => br_f (by decide) ?_) (fun c => br_t rfl (h _ ⟨_, hr, Or.inl ⟨rfl, Or.inr c⟩⟩))
    refine sw_ylen G.1 (sw_ylen hm ?_)
    rw [nI_add]
    exact h _ ⟨_, hr, Or.inr ⟨c, m, hm, rfl, rfl⟩⟩
end
theorem i_vc_extra {k : Nat} {u : SX} {v : SY} (I : i_Rel k u v) (hk : k + 4 ≤ 2048) : wpX_extra (fun r => wpY_extra (fun r' => r' = r ∧ i_Rel (k + 4) u v) v) u := by
  obtain ⟨p, a, b, l, D, F, N, rfl, rfl, G⟩ := I
  unfold wpX_extra wpY_extra
  dsimp only
  refine sw_xex (post := fun r => wpY_first _ _ 0 0) (nd := 0) G (by decide) G.1 (fun r hr => ?_)
  exact sw_yex (nd := 0) (nv := 0) G (by decide) sw_F_al (fun r' hr' => ⟨sw_EX_u hr hr', sw_rel G⟩)
theorem i_vc_bestSet {k : Nat} {u : SX} {v : SY} (I : i_Rel k u v) (hk : k + 4 ≤ 2048) : wpX_bestSet (fun r => wpY_bestSet (fun r' => r' = r ∧ i_Rel (k + 4) u v) v) u := by
  obtain ⟨p, a, b, l, D, F, N, rfl, rfl, G⟩ := I
  unfold wpX_bestSet
  dsimp only
  refine sw_xbest (nd := 0) G.2.1 G.2.2.1 G.1 (by decide) G.1 (fun r hr => ?_)
  exact sw_yset G (fun r' hr' => ⟨sw_best_u hr hr', sw_rel G⟩)
theorem i_vc_extraWith {k : Nat} {u : SX} {v : SY} (I : i_Rel k u v) (hk : k + 4 ≤ 2048) (v1 : Int32) : wpX_extraWith (fun r => wpY_extraWith (fun r' => r' = r ∧ i_Rel (k + 4) u v) v v1) u v1 := by
  obtain ⟨p, a, b, l, D, F, N, rfl, rfl, G⟩ := I
  unfold wpX_extraWith wpY_extraWith
  dsimp only
  refine sw_xisS G.1 (fun c => br_f (by decide) ?_) (fun c => br_t rfl ?_)
  · obtain ⟨j, hj, rfl, hb⟩ := id c
    rw [sw_shl j (by omega)]
    refine sw_xex (post := fun r => wpY_street _ _ _) G (sw_p1024 j hj) G.1 (fun r hr => ?_)
    refine sw_yisS (fun _ => br_f (by decide) ?_) (fun z => absurd c z)
    exact sw_yex (nv := 0) G (sw_p1024 j hj) sw_F_al (fun r' hr' => ⟨sw_EX_u hr hr', sw_rel G⟩)
  · exact sw_yisS (fun z => absurd z c) (fun z => br_t rfl ⟨rfl, sw_rel G⟩)
theorem i_vc_extraWithout {k : Nat} {u : SX} {v : SY} (I : i_Rel k u v) (hk : k + 4 ≤ 2048) (v1 : Int32) : wpX_extraWithout (fun r => wpY_extraWithout (fun r' => r' = r ∧ i_Rel (k + 4) u v) v v1) u v1 := by
  obtain ⟨p, a, b, l, D, F, N, rfl, rfl, G⟩ := I
  unfold wpX_extraWithout wpY_extraWithout
  dsimp only
  refine sw_xisS G.1 (fun c => br_f (by decide) ?_) (fun c => br_t rfl ?_)
  · obtain ⟨j, hj, rfl, hb⟩ := id c
    rw [sw_clrI G.1 hj, sw_shl j (by omega)]
    refine sw_xex (post := fun r => wpY_street _ _ _) (nd := 0) G (by decide) (sw_clr_lt G.1) (fun r hr => ?_)
    refine sw_yisS (fun _ => br_f (by decide) ?_) (fun z => absurd c z)
    exact sw_yex (nd := 0) G (by decide) (sw_F_wo G.1) (fun r' hr' => ⟨sw_EX_u hr hr', sw_rel G⟩)
  · exact sw_yisS (fun z => absurd z c) (fun z => br_t rfl ⟨rfl, sw_rel G⟩)
theorem i_vc_walkLength {k : Nat} {u : SX} {v : SY} (I : i_Rel k u v) (hk : k + 4 ≤ 2048) : wpX_walkLength (fun r => wpY_walkLength (fun r' => r' = r ∧ i_Rel (k + 4) u v) v) u := by
  obtain ⟨p, a, b, l, D, F, N, rfl, rfl, G⟩ := I
  exact sw_xwl G (fun r hr => sw_ywl G (fun r' hr' => ⟨sw_WL_u hr hr', sw_rel G⟩))
end
section
/-! ways: the sweep over the streets, and that it stands still after five rounds -/
def sw_mn (x y : Nat) : Nat := if x ≤ y then x else y
theorem sw_mn_l (x y : Nat) : sw_mn x y ≤ x := by unfold sw_mn; split <;> omega
theorem sw_mn_r (x y : Nat) : sw_mn x y ≤ y := by unfold sw_mn; split <;> omega
theorem sw_mn_ge {z x y : Nat} (h1 : z ≤ x) (h2 : z ≤ y) : z ≤ sw_mn x y := by unfold sw_mn; split <;> omega
def sw_rx (a b l : Nat → Nat) (p s : Nat) (n : Nat → Nat) : Nat → Nat :=
  if p.testBit s = true then sw_up (sw_up n (b s) (sw_mn (n (b s)) (n (a s) + l s))) (a s) (sw_mn (n (a s)) (n (b s) + l s)) else n
def sw_sv (a b l : Nat → Nat) (p : Nat) (n : Nat → Nat) : Nat → Nat → Nat
  | 0 => n
  | k + 1 => sw_rx a b l p k (sw_sv a b l p n k)
def sw_nr (a b l : Nat → Nat) (p : Nat) (n : Nat → Nat) : Nat → Nat → Nat
  | 0 => n
  | k + 1 => sw_sv a b l p (sw_nr a b l p n k) 10
def sw_sum (f : Nat → Nat) : Nat → Nat
  | 0 => 0
  | k + 1 => sw_sum f k + f k
theorem sw_sum_le {f g : Nat → Nat} (h : ∀ c, f c ≤ g c) : ∀ k, sw_sum f k ≤ sw_sum g k
  | 0 => Nat.le_refl 0
  | k + 1 => by
    have q := sw_sum_le h k
    have w := h k
    unfold sw_sum
    omega
theorem sw_sum_lt {f g : Nat → Nat} (h : ∀ c, f c ≤ g c) {i : Nat} (hi : f i < g i) : ∀ k, i < k → sw_sum f k < sw_sum g k
  | 0, z => absurd z (Nat.not_lt_zero i)
  | k + 1, z => by
    have w := h k
    unfold sw_sum
    rcases Nat.lt_or_ge i k with q | q
    · have := sw_sum_lt h hi k q
      omega
    · obtain rfl : i = k := by omega
      have := sw_sum_le h i
      omega
theorem sw_sum1 : ∀ k, sw_sum (fun _ => 1) k = k
  | 0 => rfl
  | k + 1 => by rw [sw_sum, sw_sum1 k]
/-- e is no longer at one end of a street than at the other end and along it -/
def sw_fe (a b l : Nat → Nat) (p : Nat) (e : Nat → Nat) : Prop := ∀ s, s < 10 → p.testBit s = true → e (b s) ≤ e (a s) + l s ∧ e (a s) ≤ e (b s) + l s
section
variable {a b l n e : Nat → Nat} {p : Nat}
theorem sw_rx_le (s c : Nat) : sw_rx a b l p s n c ≤ n c := by
  unfold sw_rx
  split
  · unfold sw_up
    split
    · rename_i q; rw [q]; exact sw_mn_l _ _
    · split
      · rename_i q; rw [q]; exact sw_mn_l _ _
      · exact Nat.le_refl _
  · exact Nat.le_refl _
theorem sw_rx_ge {s : Nat} (hs : s < 10) (hf : sw_fe a b l p e) (h : ∀ c, e c ≤ n c) (c : Nat) : e c ≤ sw_rx a b l p s n c := by
  unfold sw_rx
  split
  · rename_i hp
    have q := hf s hs hp
    have ha := h (a s)
    have hb := h (b s)
    unfold sw_up
    split
    · rename_i z; rw [z]; exact sw_mn_ge ha (by omega)
    · split
      · rename_i z; rw [z]; exact sw_mn_ge hb (by omega)
      · exact h c
  · exact h c
theorem sw_rx_hi (hC : sw_C a b) (s : Nat) {c : Nat} (hc : 6 ≤ c) : sw_rx a b l p s n c = n c := by
  have ha := hC.1 s
  have hb := hC.2 s
  unfold sw_rx
  split
  · unfold sw_up
    rw [if_neg (by omega), if_neg (by omega)]
  · rfl
theorem sw_sv_le (c : Nat) : ∀ k, sw_sv a b l p n k c ≤ n c
  | 0 => Nat.le_refl _
  | k + 1 => Nat.le_trans (sw_rx_le k c) (sw_sv_le c k)
theorem sw_sv_mono (k c : Nat) : ∀ d, sw_sv a b l p n (k + d) c ≤ sw_sv a b l p n k c
  | 0 => Nat.le_refl _
  | d + 1 => Nat.le_trans (sw_rx_le (k + d) c) (sw_sv_mono k c d)
theorem sw_sv_ge (hf : sw_fe a b l p e) (h : ∀ c, e c ≤ n c) : ∀ k, k ≤ 10 → ∀ c, e c ≤ sw_sv a b l p n k c
  | 0, _ => h
  | k + 1, hk => sw_rx_ge (by omega) hf (sw_sv_ge hf h k (by omega))
theorem sw_sv_hi (hC : sw_C a b) {c : Nat} (hc : 6 ≤ c) : ∀ k, sw_sv a b l p n k c = n c
  | 0 => rfl
  | k + 1 => by rw [sw_sv, sw_rx_hi hC k hc, sw_sv_hi hC hc k]
theorem sw_sv_st (hne : ∀ s, p.testBit s = true → a s ≠ b s) {s : Nat} (hs : s < 10) (hp : p.testBit s = true) : sw_sv a b l p n 10 (b s) ≤ n (a s) + l s ∧ sw_sv a b l p n 10 (a s) ≤ n (b s) + l s := by
  have m1 := sw_sv_mono (a := a) (b := b) (l := l) (p := p) (n := n) (s + 1) (b s) (9 - s)
  have m2 := sw_sv_mono (a := a) (b := b) (l := l) (p := p) (n := n) (s + 1) (a s) (9 - s)
  rw [show s + 1 + (9 - s) = 10 by omega] at m1 m2
  have l1 := sw_sv_le (a := a) (b := b) (l := l) (p := p) (n := n) (a s) s
  have l2 := sw_sv_le (a := a) (b := b) (l := l) (p := p) (n := n) (b s) s
  have hab := hne s hp
  have e1 : sw_sv a b l p n (s + 1) (b s) ≤ sw_sv a b l p n s (a s) + l s := by
    rw [sw_sv]
    unfold sw_rx
    rw [if_pos hp]
    unfold sw_up
    rw [if_neg (fun z => hab z.symm), if_pos rfl]
    exact sw_mn_r _ _
  have e2 : sw_sv a b l p n (s + 1) (a s) ≤ sw_sv a b l p n s (b s) + l s := by
    rw [sw_sv]
    unfold sw_rx
    rw [if_pos hp]
    unfold sw_up
    rw [if_pos rfl]
    exact sw_mn_r _ _
  omega
theorem sw_nr_le (c : Nat) : ∀ k, sw_nr a b l p n k c ≤ n c
  | 0 => Nat.le_refl _
  | k + 1 => Nat.le_trans (sw_sv_le c 10) (sw_nr_le c k)
theorem sw_nr_ge (hf : sw_fe a b l p e) (h : ∀ c, e c ≤ n c) : ∀ k c, e c ≤ sw_nr a b l p n k c
  | 0 => h
  | k + 1 => sw_sv_ge hf (sw_nr_ge hf h k) 10 (by omega)
theorem sw_nr_hi (hC : sw_C a b) {c : Nat} (hc : 6 ≤ c) : ∀ k, sw_nr a b l p n k c = n c
  | 0 => rfl
  | k + 1 => by rw [sw_nr, sw_sv_hi hC hc 10, sw_nr_hi hC hc k]
theorem sw_nr_stop (hC : sw_C a b) : ∀ k, (∃ j, sw_nr a b l p n (j + 1) = sw_nr a b l p n j) ∨ sw_sum (sw_nr a b l p n k) 6 + k ≤ sw_sum n 6
  | 0 => Or.inr (Nat.le_refl _)
  | k + 1 => by
    rcases sw_nr_stop hC k with h | h
    · exact Or.inl h
    · by_cases q : ∃ c, sw_nr a b l p n (k + 1) c ≠ sw_nr a b l p n k c
      · right
        obtain ⟨c, hc⟩ := q
        have le : ∀ c, sw_nr a b l p n (k + 1) c ≤ sw_nr a b l p n k c := fun c => sw_sv_le c 10
        have hc6 : c < 6 := by
          rcases Nat.lt_or_ge c 6 with w | w
          · exact w
          · exact absurd (by rw [sw_nr_hi hC w, sw_nr_hi hC w]) hc
        have := sw_sum_lt le (Nat.lt_of_le_of_ne (le c) hc) 6 hc6
        omega
      · left
        refine ⟨k, funext fun c => ?_⟩
        exact Classical.byContradiction (fun z => q ⟨c, z⟩)
theorem sw_nr_ex (hC : sw_C a b) : ∃ j, sw_nr a b l p n (j + 1) = sw_nr a b l p n j := by
  rcases sw_nr_stop (a := a) (b := b) (l := l) (p := p) (n := n) hC (sw_sum n 6 + 1) with h | h
  · exact h
  · omega
theorem sw_nr_fe (hne : ∀ s, p.testBit s = true → a s ≠ b s) {j : Nat} (h : sw_nr a b l p n (j + 1) = sw_nr a b l p n j) : sw_fe a b l p (sw_nr a b l p n j) := by
  intro s hs hp
  have q := sw_sv_st (l := l) (n := sw_nr a b l p n j) hne hs hp
  rw [sw_nr] at h
  rw [h] at q
  exact q
/-- one round more settles one corner more -/
theorem sw_nr_one (hne : ∀ s, p.testBit s = true → a s ≠ b s) {j : Nat} (h : sw_nr a b l p n (j + 1) = sw_nr a b l p n j) (k : Nat) : (∀ c, sw_nr a b l p n k c = sw_nr a b l p n j c) ∨ ∃ c, sw_nr a b l p n k c ≠ sw_nr a b l p n j c ∧ sw_nr a b l p n (k + 1) c = sw_nr a b l p n j c := by
  by_cases q : ∃ c, sw_nr a b l p n k c ≠ sw_nr a b l p n j c ∧ sw_nr a b l p n (k + 1) c = sw_nr a b l p n j c
  · exact Or.inr q
  · left
    have hfe := sw_nr_fe hne h
    have low : ∀ i c, sw_nr a b l p n j c ≤ sw_nr a b l p n i c := sw_nr_ge hfe (fun c => sw_nr_le c j)
    have hst : ∀ s, s < 10 → p.testBit s = true → sw_nr a b l p n (k + 1) (b s) ≤ sw_nr a b l p n k (a s) + l s ∧ sw_nr a b l p n (k + 1) (a s) ≤ sw_nr a b l p n k (b s) + l s := fun s hs hp => sw_sv_st hne hs hp
    have key : ∀ u w t, sw_nr a b l p n j w ≤ sw_nr a b l p n j u + t → sw_nr a b l p n (k + 1) w ≤ sw_nr a b l p n k u + t → (if sw_nr a b l p n k w = sw_nr a b l p n j w then sw_nr a b l p n j w else sw_nr a b l p n j w + 1) ≤ (if sw_nr a b l p n k u = sw_nr a b l p n j u then sw_nr a b l p n j u else sw_nr a b l p n j u + 1) + t := by
      intro u w t h1 h2
      by_cases c1 : sw_nr a b l p n k w = sw_nr a b l p n j w
      · rw [if_pos c1]
        split <;> omega
      · rw [if_neg c1]
        have c3 : sw_nr a b l p n (k + 1) w ≠ sw_nr a b l p n j w := fun z => q ⟨w, c1, z⟩
        have c4 := low (k + 1) w
        split <;> omega
    have hfe2 : sw_fe a b l p (fun c => if sw_nr a b l p n k c = sw_nr a b l p n j c then sw_nr a b l p n j c else sw_nr a b l p n j c + 1) := by
      intro s hs hp
      have q1 := hfe s hs hp
      have q2 := hst s hs hp
      exact ⟨key (a s) (b s) (l s) q1.1 q2.1, key (b s) (a s) (l s) q1.2 q2.2⟩
    have hle : ∀ c, (fun c => if sw_nr a b l p n k c = sw_nr a b l p n j c then sw_nr a b l p n j c else sw_nr a b l p n j c + 1) c ≤ n c := by
      intro c
      have w1 := sw_nr_le (a := a) (b := b) (l := l) (p := p) (n := n) c k
      have w2 := low k c
      show (if sw_nr a b l p n k c = sw_nr a b l p n j c then sw_nr a b l p n j c else sw_nr a b l p n j c + 1) ≤ n c
      split <;> omega
    intro c
    have w := sw_nr_ge hfe2 hle j c
    have w : (if sw_nr a b l p n k c = sw_nr a b l p n j c then sw_nr a b l p n j c else sw_nr a b l p n j c + 1) ≤ sw_nr a b l p n j c := w
    by_cases z : sw_nr a b l p n k c = sw_nr a b l p n j c
    · exact z
    · rw [if_neg z] at w
      omega
def sw_n0 (st : Nat) : Nat → Nat := fun c => if c = st then 0 else 100000
theorem sw_nr_cnt (hC : sw_C a b) (hne : ∀ s, p.testBit s = true → a s ≠ b s) {st : Nat} (hst : st < 6) {j : Nat} (h : sw_nr a b l p (sw_n0 st) (j + 1) = sw_nr a b l p (sw_n0 st) j) : ∀ k, (∀ c, sw_nr a b l p (sw_n0 st) k c = sw_nr a b l p (sw_n0 st) j c) ∨ k + 1 ≤ sw_sum (fun c => if sw_nr a b l p (sw_n0 st) k c = sw_nr a b l p (sw_n0 st) j c then 1 else 0) 6
  | 0 => by
    right
    have e : sw_nr a b l p (sw_n0 st) 0 st = sw_nr a b l p (sw_n0 st) j st := by
      have q := sw_nr_le (a := a) (b := b) (l := l) (p := p) (n := sw_n0 st) st j
      have z : sw_n0 st st = 0 := if_pos rfl
      rw [sw_nr]
      omega
    have := sw_sum_lt (f := fun _ => 0) (g := fun c => if sw_nr a b l p (sw_n0 st) 0 c = sw_nr a b l p (sw_n0 st) j c then 1 else 0) (fun c => Nat.zero_le _) (i := st) (by show 0 < _; rw [if_pos e]; decide) 6 hst
    omega
  | k + 1 => by
    have low : ∀ i c, sw_nr a b l p (sw_n0 st) j c ≤ sw_nr a b l p (sw_n0 st) i c := sw_nr_ge (sw_nr_fe hne h) (fun c => sw_nr_le c j)
    have step : ∀ c, sw_nr a b l p (sw_n0 st) (k + 1) c ≤ sw_nr a b l p (sw_n0 st) k c := fun c => sw_sv_le c 10
    rcases sw_nr_cnt hC hne hst h k with q | q
    · left
      intro c
      have := low (k + 1) c
      have := step c
      have := q c
      omega
    · rcases sw_nr_one hne h k with w | ⟨c, w1, w2⟩
      · left
        intro c
        have := low (k + 1) c
        have := step c
        have := w c
        omega
      · right
        have hc6 : c < 6 := by
          rcases Nat.lt_or_ge c 6 with z | z
          · exact z
          · exact absurd (by rw [sw_nr_hi hC z, sw_nr_hi hC z]) w1
        have := sw_sum_lt (f := fun c => if sw_nr a b l p (sw_n0 st) k c = sw_nr a b l p (sw_n0 st) j c then 1 else 0) (g := fun c => if sw_nr a b l p (sw_n0 st) (k + 1) c = sw_nr a b l p (sw_n0 st) j c then 1 else 0) (by
          intro c
          show (if _ then 1 else 0) ≤ (if _ then 1 else 0)
          have := low (k + 1) c
          have := step c
          split <;> split <;> omega) (i := c) (by
          show (if _ then 1 else 0) < (if _ then 1 else 0)
          rw [if_neg w1, if_pos w2]; decide) 6 hc6
        omega
theorem sw_nr_6 (hC : sw_C a b) (hne : ∀ s, p.testBit s = true → a s ≠ b s) {st : Nat} (hst : st < 6) : ∀ c, sw_nr a b l p (sw_n0 st) 6 c = sw_nr a b l p (sw_n0 st) 5 c := by
  obtain ⟨j, h⟩ := sw_nr_ex (a := a) (b := b) (l := l) (p := p) (n := sw_n0 st) hC
  have all : ∀ c, sw_nr a b l p (sw_n0 st) 5 c = sw_nr a b l p (sw_n0 st) j c := by
    rcases sw_nr_cnt hC hne hst h 5 with q | q
    · exact q
    · intro c
      rcases Nat.lt_or_ge c 6 with z | z
      · apply Classical.byContradiction
        intro w
        have := sw_sum_lt (f := fun c => if sw_nr a b l p (sw_n0 st) 5 c = sw_nr a b l p (sw_n0 st) j c then 1 else 0) (g := fun _ => 1) (by
          intro c
          show (if _ then 1 else 0) ≤ 1
          split <;> omega) (i := c) (by
          show (if _ then 1 else 0) < 1
          rw [if_neg w]; decide) 6 z
        rw [sw_sum1] at this
        omega
      · rw [sw_nr_hi hC z, sw_nr_hi hC z]
  intro c
  have w1 : sw_nr a b l p (sw_n0 st) 6 c ≤ sw_nr a b l p (sw_n0 st) 5 c := sw_sv_le c 10
  have w2 := sw_nr_ge (sw_nr_fe hne h) (fun c => sw_nr_le c j) 6 c
  have w3 := all c
  omega
/-- every value is 100000 (no way) or small -/
def sw_B (m : Nat) (n : Nat → Nat) : Prop := ∀ c, n c ≤ 100000 ∧ (n c < 100000 → n c ≤ m)
theorem sw_rx_B {m : Nat} (hl : ∀ s, l s ≤ 20) (h : sw_B m n) (s : Nat) : sw_B (m + 20) (sw_rx a b l p s n) := by
  intro c
  have hc := h c
  have ha := h (a s)
  have hb := h (b s)
  have hs := hl s
  unfold sw_rx
  split
  · unfold sw_up sw_mn
    split
    · split <;> omega
    · split
      · split <;> omega
      · omega
  · omega
theorem sw_sv_B {m : Nat} (hl : ∀ s, l s ≤ 20) (h : sw_B m n) : ∀ k, sw_B (m + 20 * k) (sw_sv a b l p n k)
  | 0 => h
  | k + 1 => by
    have q := sw_rx_B (a := a) (b := b) (p := p) hl (sw_sv_B hl h k) k
    rw [show m + 20 * k + 20 = m + 20 * (k + 1) by omega] at q
    exact q
theorem sw_n0_B (st : Nat) : sw_B 0 (sw_n0 st) := by
  intro c
  unfold sw_n0
  split <;> omega
theorem sw_nr_B (hl : ∀ s, l s ≤ 20) (st : Nat) : ∀ k, sw_B (200 * k) (sw_nr a b l p (sw_n0 st) k)
  | 0 => sw_n0_B st
  | k + 1 => by
    have q := sw_sv_B (a := a) (b := b) (p := p) hl (sw_nr_B hl st k) 10
    rw [show 200 * k + 20 * 10 = 200 * (k + 1) by omega] at q
    exact q
end
end
section
/-! way: both walks against the sweep -/
def sw_dv (m : Nat) : Int32 := if m < 100000 then nI m else -1
def sw_dd (n : Nat → Nat) (D : Nat → Int32) : Prop := ∀ c, c < 6 → D c = sw_dv (n c)
def sw_nn (n : Nat → Nat) (N : Nat → Int32) : Prop := ∀ c, c < 6 → N c = nI (n c)
def sw_s1 (n : Nat → Nat) (f t m : Nat) : Nat → Nat := sw_up n t (sw_mn (n t) (n f + m))
theorem sw_dv_lt {m : Nat} (h : m < 100000) : sw_dv m = nI m := if_pos h
theorem sw_dv_ge {m : Nat} (h : ¬ m < 100000) : sw_dv m = -1 := if_neg h
theorem sw_dd_up {n : Nat → Nat} {D : Nat → Int32} {t v w : Nat} (h : sw_dd n D) (hv : v < 100000) (hw : w = v) (ht : t < 2 ^ 31) : sw_dd (sw_up n t w) (upd D (nI t).toNatClampNeg (nI v)) := by
  subst hw
  intro c hc
  rw [nI_clamp ht]
  unfold upd sw_up
  by_cases e : c = t
  · rw [if_pos e, if_pos e, sw_dv_lt hv]
  · rw [if_neg e, if_neg e]; exact h c hc
theorem sw_dd_same {n : Nat → Nat} {D : Nat → Int32} {t w : Nat} (h : sw_dd n D) (hw : w = n t) : sw_dd (sw_up n t w) D := by
  subst hw
  intro c hc
  unfold sw_up
  by_cases e : c = t
  · rw [if_pos e, ← e]; exact h c hc
  · rw [if_neg e]; exact h c hc
theorem sw_nn_up {n : Nat → Nat} {N : Nat → Int32} {t v : Nat} (h : sw_nn n N) (ht : t < 2 ^ 31) : sw_nn (sw_up n t v) (upd N (nI t).toNatClampNeg (nI v)) := by
  intro c hc
  rw [nI_clamp ht]
  unfold upd sw_up
  by_cases e : c = t
  · rw [if_pos e, if_pos e]
  · rw [if_neg e, if_neg e]; exact h c hc
theorem sw_s1_rx {a b l n : Nat → Nat} {p s : Nat} (hp : p.testBit s = true) (hab : a s ≠ b s) : sw_s1 (sw_s1 n (a s) (b s) (l s)) (b s) (a s) (l s) = sw_rx a b l p s n := by
  unfold sw_s1 sw_rx
  rw [if_pos hp]
  have e1 : ∀ v, sw_up n (b s) v (a s) = n (a s) := fun v => if_neg hab
  have e2 : ∀ v, sw_up n (b s) v (b s) = v := fun v => if_pos rfl
  rw [e1, e2]
  congr 1
  unfold sw_mn
  repeat' split
  all_goals omega
theorem sw_s1_B {n : Nat → Nat} {f t m B : Nat} (hm : m ≤ 20) (h : sw_B B n) : sw_B (B + 20) (sw_s1 n f t m) := by
  intro c
  have hc := h c
  have hf := h f
  have ht := h t
  unfold sw_s1 sw_up sw_mn
  split
  · split <;> omega
  · omega
section
variable {P : Int32} {a b l n : Nat → Nat} {A B' L D F N : Nat → Int32} {p : Nat}
theorem sw_xsd {post : SX → Prop} {f t m B : Nat} (hf : f < 6) (ht : t < 6) (hm : m ≤ 20) (hB : sw_B B n) (hB2 : B + 20 < 100000) (hD : sw_dd n D) (h : ∀ D', sw_dd (sw_s1 n f t m) D' → post (P, A, B', L, D')) : wpX_shortenDistance post (P, A, B', L, D) (nI f) (nI t) (nI m) := by
  have ef : D (nI f).toNatClampNeg = sw_dv (n f) := by rw [nI_clamp (by omega)]; exact hD f hf
  have et : D (nI t).toNatClampNeg = sw_dv (n t) := by rw [nI_clamp (by omega)]; exact hD t ht
  have bf := hB f
  have bt := hB t
  refine ⟨vp_in_nI hf (by decide), ?_⟩
  rw [ef, et]
  by_cases c1 : n f < 100000
  · rw [sw_dv_lt c1]
    refine br_f (sw_nm1 (by omega)) ⟨vp_in_nI hf (by decide), ?_⟩
    intro y ey
    rw [nI_add] at ey
    subst ey
    refine ⟨vp_in_nI ht (by decide), ?_⟩
    by_cases c2 : n t < 100000
    · rw [sw_dv_lt c2]
      refine br_f (sw_nm1 (by omega)) ⟨vp_in_nI ht (by decide), ?_⟩
      by_cases c3 : n t ≤ n f + m
      · exact br_t (nI_le c3 (by omega)) (h _ (sw_dd_same hD (by unfold sw_mn; rw [if_pos c3])))
      · refine br_f (nI_ge (by omega) (by omega)) ⟨vp_in_nI ht (by decide), ?_⟩
        intro w ew
        subst ew
        exact h _ (sw_dd_up hD (by omega) (by unfold sw_mn; rw [if_neg c3]) (by omega))
    · rw [sw_dv_ge c2]
      refine br_t rfl ⟨vp_in_nI ht (by decide), ?_⟩
      intro w ew
      subst ew
      exact h _ (sw_dd_up hD (by omega) (by unfold sw_mn; rw [if_neg (by omega)]) (by omega))
  · rw [sw_dv_ge c1]
    exact br_t rfl (h _ (sw_dd_same hD (by unfold sw_mn; rw [if_pos (by omega)])))
theorem sw_xsds {post : SX → Prop} {m : Nat} (G : sw_G p a b l) (hB : sw_B m n) (hm : m ≤ 10000) (hD : sw_dd n D) (h : ∀ D', sw_dd (sw_sv a b l p n 10) D' → post (nI p, sw_na a, sw_na b, sw_na l, D')) : wpX_shortenDistances post (nI p, sw_na a, sw_na b, sw_na l, D) := by
  obtain ⟨hp, hC, hl, hne⟩ := G
  refine loop_0 (fun n' i D => wX_shortenDistances_2 post n' (nI i) (nI p) (sw_na a) (sw_na b) (sw_na l) D) (fun i D => sw_dd (sw_sv a b l p n i) D) 10 D hD ?_ ?_
  · intro n' D hD
    exact br_t (by decide) (h D hD)
  · intro n' i D hi hD hn
    have hBi := sw_sv_B (a := a) (b := b) (p := p) hl hB i
    refine br_f (nI_ge (b := 10) hi (by decide)) ?_
    refine sw_xcont (by omega) (by omega) (fun hb => br_f (by decide) ?_) (fun hb => br_t rfl ?_)
    · refine ⟨vp_in_nI hi (by decide), vp_in_nI hi (by decide), vp_in_nI hi (by decide), ?_⟩
      rw [sw_at a (by omega), sw_at b (by omega), sw_at l (by omega)]
      refine sw_xsd (hC.1 i) (hC.2 i) (hl i) hBi (by omega) hD ?_
      intro D' hD'
      dsimp only
      refine ⟨vp_in_nI hi (by decide), vp_in_nI hi (by decide), vp_in_nI hi (by decide), ?_⟩
      rw [sw_at a (by omega), sw_at b (by omega), sw_at l (by omega)]
      refine sw_xsd (hC.2 i) (hC.1 i) (hl i) (sw_s1_B (hl i) hBi) (by omega) hD' ?_
      intro D'' hD''
      dsimp only
      intro z ez
      rw [ez, nI_1]
      rw [sw_s1_rx hb (hne i hb)] at hD''
      exact hn D'' hD''
    · intro z ez
      rw [ez, nI_1]
      refine hn D ?_
      rw [sw_sv]
      unfold sw_rx
      rw [hb, if_neg (by decide)]
      exact hD
theorem sw_xway {post : Int32 → SX → Prop} {st t : Nat} (G : sw_G p a b l) (hst : st < 6) (ht : t < 6) (h : ∀ D', post (sw_dv (sw_nr a b l p (sw_n0 st) 5 t)) (nI p, sw_na a, sw_na b, sw_na l, D')) : ∃ n20 : Nat, wX_way_20 post (nI st) (nI t) (nI p) n20 0 (sw_na a) (sw_na b) (sw_na l) D := by
  have H : ∀ d j, j + d = 5 → ∀ D, sw_dd (sw_nr a b l p (sw_n0 st) j) D → wX_way_48 post (nI t) (d + 1) (nI (j + 1)) (nI p) (sw_na a) (sw_na b) (sw_na l) D := by
    intro d
    induction d with
    | zero =>
      intro j hj D hD
      obtain rfl : j = 5 := by omega
      refine br_t (by decide) ⟨vp_in_nI ht (by decide), ?_⟩
      rw [nI_clamp (by omega), hD t ht]
      exact h D
    | succ d ih =>
      intro j hj D hD
      refine br_f (nI_ge (b := 6) (by omega) (by decide)) ?_
      refine sw_xsds G (sw_nr_B G.2.2.1 st j) (by omega) hD ?_
      intro D' hD'
      dsimp only
      intro z ez
      rw [ez, nI_1]
      exact ih (j + 1) (by omega) D' hD'
  refine loop_0 (fun n' i D => wX_way_20 post (nI st) (nI t) (nI p) n' (nI i) (sw_na a) (sw_na b) (sw_na l) D) (fun i D => ∀ c, c < i → D c = -1) 6 D (fun c hc => absurd hc (Nat.not_lt_zero c)) ?_ ?_
  · intro n' D hD
    refine br_t (by decide) ⟨vp_in_nI hst (by decide), ?_⟩
    intro w ew
    subst ew
    refine ⟨6, H 5 0 rfl _ ?_⟩
    intro c hc
    rw [nI_clamp (by omega)]
    unfold upd
    rw [sw_nr]
    unfold sw_n0
    by_cases e : c = st
    · rw [if_pos e, if_pos e, sw_dv_lt (by decide)]; rfl
    · rw [if_neg e, if_neg e, hD c hc, sw_dv_ge (by decide)]
  · intro n' i D hi hD hn
    refine br_f (nI_ge (b := 6) hi (by decide)) ⟨vp_in_nI hi (by decide), ?_⟩
    intro w ew z ez
    rw [ez, nI_1, ew]
    refine hn _ ?_
    intro c hc
    rw [nI_clamp (by omega)]
    unfold upd
    by_cases e : c = i
    · rw [if_pos e]
    · rw [if_neg e]; exact hD c (by omega)
theorem sw_y166 {post : Int32 → SY → Prop} {J51 J60 : Int32 → (Nat → Int32) → (Nat → Int32) → (Nat → Int32) → (Nat → Int32) → (Nat → Int32) → (Nat → Int32) → Prop} {x2 x3 : Int32} {T : Nat → Int32} {i y v : Nat} (hC : sw_C a b) (hi : i < 10) (hN : sw_nn n N) (hab : a i ≠ b i) (hna : n (a i) < 2 ^ 31) (hy : y < 2 ^ 31) (h : ∀ N', sw_nn (sw_up (sw_up n (b i) v) (a i) (sw_mn (n (a i)) y)) N' → J60 (nI (i + 1)) T (sw_na a) (sw_na b) L F N') : wY_way_166 post J51 J60 x2 x3 (nI i) (nI y) (nI v) (nI (b i)) T (sw_na a) (sw_na b) L F N := by
  have ha := hC.1 i
  have hb := hC.2 i
  refine ⟨vp_in_nI hb (by decide), ?_⟩
  intro w ew
  have hw : sw_nn (sw_up n (b i) v) w := by rw [ew]; exact sw_nn_up hN (by omega)
  rw [sw_at a (by omega)]
  have ea : w (nI (a i)).toNatClampNeg = nI (n (a i)) := by
    rw [nI_clamp (by omega), hw _ ha]
    exact congrArg nI (if_neg hab)
  rw [ea]
  refine ⟨vp_in_nI hi (by decide), vp_in_nI hi (by decide), vp_in_nI ha (by decide), ?_⟩
  by_cases c : n (a i) ≤ y
  · refine br_t (nI_le c hy) ⟨vp_in_nI hi (by decide), vp_in_nI ha (by decide), vp_in_nI ha (by decide), ?_⟩
    intro w2 e2 z ez
    rw [ez, nI_1, e2]
    refine h _ ?_
    unfold sw_mn
    rw [if_pos c]
    exact sw_nn_up hw (by omega)
  · refine br_f (nI_ge (by omega) hna) ⟨vp_in_nI ha (by decide), ?_⟩
    intro w2 e2 z ez
    rw [ez, nI_1, e2]
    refine h _ ?_
    unfold sw_mn
    rw [if_neg c]
    exact sw_nn_up hw (by omega)
theorem sw_yway {post : Int32 → SY → Prop} {st t : Nat} (G : sw_G p a b l) (hst : st < 6) (ht : t < 6) (h : ∀ N', post (sw_dv (sw_nr a b l p (sw_n0 st) 6 t)) (sw_na (sw_tb p), sw_na a, sw_na b, sw_na l, F, N')) : ∃ n20 : Nat, wY_way_20 post (nI st) (nI t) n20 0 (sw_na (sw_tb p)) (sw_na a) (sw_na b) (sw_na l) F N := by
  obtain ⟨hp, hC, hl, hne⟩ := G
  have H : ∀ d j, j + d = 6 → ∀ N, sw_nn (sw_nr a b l p (sw_n0 st) j) N → wY_way_51 post (nI t) (d + 1) (nI j) (sw_na (sw_tb p)) (sw_na a) (sw_na b) (sw_na l) F N := by
    intro d
    induction d with
    | zero =>
      intro j hj N hN
      obtain rfl : j = 6 := by omega
      refine br_t (by decide) ⟨vp_in_nI ht (by decide), ?_⟩
      rw [nI_clamp (by omega), hN t ht]
      have hB := sw_nr_B (a := a) (b := b) (p := p) hl st 6 t
      by_cases c : sw_nr a b l p (sw_n0 st) 6 t < 100000
      · refine br_f (nI_ge (b := 100000) c (by decide)) ⟨vp_in_nI ht (by decide), ?_⟩
        have q := h N
        rw [sw_dv_lt c] at q
        exact q
      · refine br_t (nI_le (a := 100000) (by omega) (by omega)) ?_
        have q := h N
        rw [sw_dv_ge c] at q
        exact q
    | succ d ih =>
      intro j hj N hN
      refine br_f (nI_ge (b := 6) (by omega) (by decide)) ?_
      refine loop_0 (fun n' i N => wY_way_60 post (wY_way_51 post (nI t) (d + 1)) (nI t) (nI j) n' (nI i) (sw_na (sw_tb p)) (sw_na a) (sw_na b) (sw_na l) F N) (fun i N => sw_nn (sw_sv a b l p (sw_nr a b l p (sw_n0 st) j) i) N) 10 N hN ?_ ?_
      · intro n' N hN
        refine br_t (by decide) ?_
        intro z ez
        rw [ez, nI_1]
        exact ih (j + 1) (by omega) N hN
      · intro n' i N hi hN hn
        have hBi := sw_sv_B (a := a) (b := b) (p := p) hl (sw_nr_B (a := a) (b := b) (p := p) hl st j) i
        have ha := hC.1 i
        have hb := hC.2 i
        have hli := hl i
        have ba := hBi (a i)
        have bb := hBi (b i)
        have en : sw_sv a b l p (sw_nr a b l p (sw_n0 st) j) (i + 1) = sw_rx a b l p i (sw_sv a b l p (sw_nr a b l p (sw_n0 st) j) i) := rfl
        generalize sw_sv a b l p (sw_nr a b l p (sw_n0 st) j) (i + 1) = q' at *
        generalize sw_sv a b l p (sw_nr a b l p (sw_n0 st) j) i = q at *
        refine br_f (nI_ge (b := 10) hi (by decide)) ⟨vp_in_nI hi (by decide), ?_⟩
        rw [sw_at (sw_tb p) (by omega)]
        cases hbit : p.testBit i with
        | false =>
          refine br_t (by simp [sw_tb, hbit]; rfl) ?_
          intro z ez
          rw [ez, nI_1]
          refine hn N ?_
          rw [en]
          unfold sw_rx
          rw [hbit, if_neg (by decide)]
          exact hN
        | true =>
          refine br_f (by simp [sw_tb, hbit]; decide) ?_
          rw [sw_at a (by omega), sw_at b (by omega), sw_at l (by omega)]
          have ea : N (nI (a i)).toNatClampNeg = nI (q (a i)) := by rw [nI_clamp (by omega)]; exact hN _ ha
          have eb : N (nI (b i)).toNatClampNeg = nI (q (b i)) := by rw [nI_clamp (by omega)]; exact hN _ hb
          rw [ea, eb]
          refine ⟨vp_in_nI hi (by decide), vp_in_nI ha (by decide), vp_in_nI hi (by decide), ?_⟩
          intro y5 e5
          refine ⟨vp_in_nI hi (by decide), vp_in_nI hb (by decide), vp_in_nI hi (by decide), ?_⟩
          intro y6 e6
          rw [nI_add] at e5 e6
          subst e5 e6
          refine ⟨vp_in_nI hi (by decide), vp_in_nI hi (by decide), vp_in_nI hb (by decide), ?_⟩
          have hab := hne i hbit
          by_cases c : q (b i) ≤ q (a i) + l i
          · refine br_t (nI_le c (by omega)) ⟨vp_in_nI hi (by decide), vp_in_nI hb (by decide), ?_⟩
            refine sw_y166 hC hi hN hab (by omega) (by omega) ?_
            intro N' hN'
            refine hn N' ?_
            rw [en]
            unfold sw_rx
            rw [if_pos hbit, show sw_mn (q (b i)) (q (a i) + l i) = q (b i) from if_pos c]
            exact hN'
          · refine br_f (nI_ge (by omega) (by omega)) ?_
            refine sw_y166 hC hi hN hab (by omega) (by omega) ?_
            intro N' hN'
            refine hn N' ?_
            rw [en]
            unfold sw_rx
            rw [if_pos hbit, show sw_mn (q (b i)) (q (a i) + l i) = q (a i) + l i from if_neg c]
            exact hN'
  refine loop_0 (fun n' i N => wY_way_20 post (nI st) (nI t) n' (nI i) (sw_na (sw_tb p)) (sw_na a) (sw_na b) (sw_na l) F N) (fun i N => ∀ c, c < i → N c = nI (sw_n0 st c)) 6 N (fun c hc => absurd hc (Nat.not_lt_zero c)) ?_ ?_
  · intro n' N hN
    exact br_t (by decide) ⟨7, H 6 0 rfl N hN⟩
  · intro n' i N hi hN hn
    refine br_f (nI_ge (b := 6) hi (by decide)) ?_
    have goal : ∀ v, v = sw_n0 st i → ∀ c, c < i + 1 → upd N (nI i).toNatClampNeg (nI v) c = nI (sw_n0 st c) := by
      intro v hv c hc
      rw [nI_clamp (by omega)]
      unfold upd
      by_cases e : c = i
      · rw [if_pos e, hv, e]
      · rw [if_neg e]; exact hN c (by omega)
    by_cases e : i = st
    · refine br_t (by rw [e]) ⟨vp_in_nI hi (by decide), ?_⟩
      intro w ew z ez
      rw [ez, nI_1, ew]
      exact hn _ (goal 0 (by unfold sw_n0; rw [if_pos e]))
    · refine br_f (sw_ne (by omega) (by omega) e) ⟨vp_in_nI hi (by decide), ?_⟩
      intro w ew z ez
      rw [ez, nI_1, ew]
      exact hn _ (goal 100000 (by unfold sw_n0; rw [if_neg e]))
end
theorem i_vc_way {k : Nat} {u : SX} {v : SY} (I : i_Rel k u v) (hk : k + 4 ≤ 2048) (v1 : Int32) (v2 : Int32) : wpX_way (fun r u' => wpY_way (fun r' v' => r' = r ∧ i_Rel (k + 4) u' v') v v1 v2) u v1 v2 := by
  obtain ⟨p, a, b, l, D, F, N, rfl, rfl, G⟩ := I
  unfold wpX_way wpY_way
  dsimp only
  refine sw_xisC (fun c1 => br_f (by decide) ?_) (fun c1 => br_t rfl ?_)
  · refine sw_xisC (fun c2 => br_f (by decide) ?_) (fun c2 => br_t rfl ?_)
    · obtain ⟨i, hi, rfl⟩ := id c1
      obtain ⟨j, hj, rfl⟩ := id c2
      refine sw_xway G hi hj ?_
      intro D'
      refine sw_yisC (fun _ => br_f (by decide) ?_) (fun z => absurd c1 z)
      refine sw_yisC (fun _ => br_f (by decide) ?_) (fun z => absurd c2 z)
      refine sw_yway G hi hj ?_
      intro N'
      exact ⟨by rw [sw_nr_6 G.2.1 G.2.2.2 hi], sw_rel G⟩
    · refine sw_yisC (fun _ => br_f (by decide) ?_) (fun z => absurd c1 z)
      exact sw_yisC (fun z => absurd z c2) (fun z => br_t rfl ⟨rfl, sw_rel G⟩)
  · exact sw_yisC (fun z => absurd z c1) (fun z => br_t rfl ⟨rfl, sw_rel G⟩)
end
section
/-! the walk: X's two sets against Y's counts, in lockstep -/
def sw_lf (f : Nat → Nat) : Nat := sw_ms (fun s => decide (0 < f s)) 10
def sw_tw (f : Nat → Nat) : Nat := sw_ms (fun s => decide (1 < f s)) 10
def sw_dn (f : Nat → Nat) (s : Nat) : Nat → Nat := sw_up f s (f s - 1)
def sw_ot (a b : Nat → Nat) (c s : Nat) : Nat := if a s = c then b s else a s
def sw_ok (a b f : Nat → Nat) (c s : Nat) : Prop := 0 < f s ∧ (a s = c ∨ b s = c) ∧ sw_af a (sw_lf (sw_dn f s)) (sw_rd a b (sw_lf (sw_dn f s)) (2 ^ sw_ot a b c s) 6) 10 = true
theorem sw_lf_lt (f : Nat → Nat) : sw_lf f < 1024 := sw_ms_lt _
theorem sw_tw_lt (f : Nat → Nat) : sw_tw f < 1024 := sw_ms_lt _
theorem sw_lf_bit {f : Nat → Nat} {s : Nat} (hs : s < 10) : (sw_lf f).testBit s = decide (0 < f s) := by
  unfold sw_lf
  rw [sw_ms_bit, decide_eq_true hs]; rfl
theorem sw_tw_bit {f : Nat → Nat} {s : Nat} (hs : s < 10) : (sw_tw f).testBit s = decide (1 < f s) := by
  unfold sw_tw
  rw [sw_ms_bit, decide_eq_true hs]; rfl
theorem sw_ot6 {a b : Nat → Nat} (hC : sw_C a b) (c s : Nat) : sw_ot a b c s < 6 := by
  unfold sw_ot
  split
  · exact hC.2 s
  · exact hC.1 s
theorem sw_lf_t {f : Nat → Nat} {s : Nat} (hs : s < 10) (h : (sw_tw f).testBit s = true) : sw_lf (sw_dn f s) = sw_lf f := by
  rw [sw_tw_bit hs, decide_eq_true_eq] at h
  apply sw_ext (sw_lf_lt _) (sw_lf_lt _)
  intro i hi
  rw [sw_lf_bit hi, sw_lf_bit hi]
  apply decide_eq_decide.mpr
  unfold sw_dn sw_up
  split
  · rename_i e; rw [e]; omega
  · exact Iff.rfl
theorem sw_lf_f {f : Nat → Nat} {s : Nat} (hs : s < 10) (h : (sw_tw f).testBit s = false) : sw_lf (sw_dn f s) = sw_clr (sw_lf f) s := by
  rw [sw_tw_bit hs, decide_eq_false_iff_not] at h
  apply sw_ext (sw_lf_lt _) (sw_clr_lt (sw_lf_lt _))
  intro i hi
  rw [sw_clr_bit (sw_lf_lt _), sw_lf_bit hi, sw_lf_bit hi]
  unfold sw_dn sw_up
  by_cases e : i = s
  · subst e
    rw [if_pos rfl, decide_eq_false (by omega)]
    simp
  · rw [if_neg e, decide_eq_false (show ¬ s = i from fun z => e z.symm)]
    simp
theorem sw_tw_dn {f : Nat → Nat} {s : Nat} (hf : f s ≤ 2) : sw_tw (sw_dn f s) = sw_clr (sw_tw f) s := by
  apply sw_ext (sw_tw_lt _) (sw_clr_lt (sw_tw_lt _))
  intro i hi
  rw [sw_clr_bit (sw_tw_lt _), sw_tw_bit hi, sw_tw_bit hi]
  unfold sw_dn sw_up
  by_cases e : i = s
  · subst e
    rw [if_pos rfl, decide_eq_false (by omega)]
    simp
  · rw [if_neg e, decide_eq_false (show ¬ s = i from fun z => e z.symm)]
    simp
theorem sw_dn_2 {f : Nat → Nat} (s : Nat) (hf : ∀ s, s < 10 → f s ≤ 2) : ∀ t, t < 10 → sw_dn f s t ≤ 2 := by
  intro t ht
  unfold sw_dn sw_up
  have := hf t ht
  split
  · rename_i e; rw [← e]; omega
  · exact this
theorem sw_dn_back {f : Nat → Nat} {s : Nat} (h : 0 < f s) : sw_up (sw_dn f s) s (f s - 1 + 1) = f := by
  funext i
  unfold sw_dn sw_up
  split
  · rename_i e; rw [e]; omega
  · rfl
section
variable {P : Int32} {a b f : Nat → Nat} {A B L D T N : Nat → Int32} {c : Nat}
theorem sw_xea {post : Int32 → Prop} {i : Nat} (hC : sw_C a b) (hc : c < 6) (hi : i < 10) (h1 : a i = c ∨ b i = c → post 1) (h0 : ¬ (a i = c ∨ b i = c) → post 0) : wpX_endsAt post (P, sw_na a, sw_na b, L, D) (nI i) (nI c) := by
  have ha := hC.1 i
  have hb := hC.2 i
  refine ⟨vp_in_nI hi (by decide), ?_⟩
  rw [sw_at a (by omega), sw_at b (by omega)]
  by_cases e1 : a i = c
  · exact br_t (by rw [e1]) (h1 (Or.inl e1))
  · refine br_f (sw_ne (by omega) (by omega) e1) ⟨vp_in_nI hi (by decide), ?_⟩
    by_cases e2 : b i = c
    · exact br_t (by rw [e2]) (h1 (Or.inr e2))
    · exact br_f (sw_ne (by omega) (by omega) e2) (h0 (fun z => z.elim e1 e2))
theorem sw_xot {post : Int32 → Prop} {i : Nat} (hC : sw_C a b) (hc : c < 6) (hi : i < 10) (h : post (nI (sw_ot a b c i))) : wpX_otherEnd post (P, sw_na a, sw_na b, L, D) (nI i) (nI c) := by
  have ha := hC.1 i
  refine ⟨vp_in_nI hi (by decide), ?_⟩
  rw [sw_at a (by omega), sw_at b (by omega)]
  unfold sw_ot at h
  by_cases e1 : a i = c
  · rw [if_pos e1] at h
    exact br_t (by rw [e1]) ⟨vp_in_nI hi (by decide), h⟩
  · rw [if_neg e1] at h
    exact br_f (sw_ne (by omega) (by omega) e1) ⟨vp_in_nI hi (by decide), h⟩
theorem sw_xla {post : Int32 → Prop} {u : SX} {i : Nat} (hi : i < 10) (h : post (nI (sw_lf (sw_dn f i)))) : wpX_leftAfter post u (nI i) (nI (sw_lf f)) (nI (sw_tw f)) := by
  obtain ⟨P, A, B, L, D⟩ := u
  have l1 := sw_lf_lt f
  have l2 := sw_tw_lt f
  unfold wpX_leftAfter
  dsimp only
  refine sw_xcont (by omega) (by omega) (fun hb => br_f (by decide) ?_) (fun hb => br_t rfl ?_)
  · rw [sw_lf_t hi hb] at h
    exact h
  · rw [sw_lf_f hi hb] at h
    rw [sw_clrI l1 hi]
    exact h
theorem sw_xstep {post : Int32 → Prop} (hC : sw_C a b) (hc : c < 6) (h : ∀ s, s < 10 → sw_ok a b f c s → (∀ j, j < s → ¬ sw_ok a b f c j) → post (nI s)) (h0 : (∀ j, j < 10 → ¬ sw_ok a b f c j) → post (-1)) : wpX_leastStep post (P, sw_na a, sw_na b, L, D) (nI c) (nI (sw_lf f)) (nI (sw_tw f)) := by
  have l1 := sw_lf_lt f
  refine loop_0 (fun n i (_ : Unit) => wX_leastStep_3 post (nI c) (nI (sw_lf f)) (nI (sw_tw f)) P (sw_na a) (sw_na b) L D n (nI i)) (fun i _ => ∀ j, j < i → ¬ sw_ok a b f c j) 10 () (fun j hj => absurd hj (Nat.not_lt_zero j)) ?_ ?_
  · intro n _ hs
    exact br_t (by decide) (h0 hs)
  · intro n i _ hi hs hn
    have skip : ¬ sw_ok a b f c i → ∀ z, z = nI i + 1 → wX_leastStep_3 post (nI c) (nI (sw_lf f)) (nI (sw_tw f)) P (sw_na a) (sw_na b) L D n z := by
      intro q z ez
      rw [ez, nI_1]
      refine hn () ?_
      intro j hj
      rcases Nat.lt_or_ge j i with w | w
      · exact hs j w
      · obtain rfl : j = i := by omega
        exact q
    refine br_f (nI_ge (b := 10) hi (by decide)) ?_
    refine sw_xcont (by omega) (by omega) (fun hb => br_f (by decide) ?_) (fun hb => br_t rfl (skip ?_))
    · rw [sw_lf_bit hi, decide_eq_true_eq] at hb
      refine sw_xea hC hc hi (fun e => br_f (by decide) ?_) (fun e => br_t rfl (skip (fun q => e q.2.1)))
      refine sw_xot hC hc hi (sw_xla hi (sw_xwalk hC (sw_lf_lt _) (sw_ot6 hC c i) ?_))
      by_cases w : sw_af a (sw_lf (sw_dn f i)) (sw_rd a b (sw_lf (sw_dn f i)) (2 ^ sw_ot a b c i) 6) 10 = true
      · rw [if_pos w]
        exact br_f (by decide) (h i hi ⟨hb, e, w⟩ hs)
      · rw [if_neg w]
        exact br_t rfl (skip (fun q => w q.2.2))
    · rw [sw_lf_bit hi, decide_eq_false_iff_not] at hb
      exact fun q => hb q.1
theorem sw_y72 {post : Int32 → SY → Prop} {J2 : Int32 → (Nat → Int32) → (Nat → Int32) → (Nat → Int32) → (Nat → Int32) → (Nat → Int32) → (Nat → Int32) → Prop} {x1 : Int32} {i : Nat} (hC : sw_C a b) (hf : ∀ s, s < 10 → f s ≤ 2) (hi : i < 10) (h0 : 0 < f i) (h1 : sw_af a (sw_lf (sw_dn f i)) (sw_rd a b (sw_lf (sw_dn f i)) (2 ^ sw_ot a b c i) 6) 10 = true → post (nI i) (T, sw_na a, sw_na b, L, sw_na (sw_dn f i), N)) (h2 : ¬ sw_af a (sw_lf (sw_dn f i)) (sw_rd a b (sw_lf (sw_dn f i)) (2 ^ sw_ot a b c i) 6) 10 = true → J2 (nI (i + 1)) T (sw_na a) (sw_na b) L (sw_na f) N) : wY_nextStreet_72 post J2 x1 (nI i) (nI (sw_ot a b c i)) T (sw_na a) (sw_na b) L (sw_na (sw_dn f i)) N := by
  unfold wY_nextStreet_72
  refine sw_yrest (fun s hs => Nat.lt_of_le_of_lt (sw_dn_2 i hf s hs) (by decide)) ?_
  refine sw_yallFrom hC (sw_lf_lt _) (sw_ot6 hC c i) ?_
  by_cases w : sw_af a (sw_lf (sw_dn f i)) (sw_rd a b (sw_lf (sw_dn f i)) (2 ^ sw_ot a b c i) 6) 10 = true
  · have w' := w
    unfold sw_lf at w'
    rw [if_pos w']
    exact br_f (by decide) (h1 w)
  · have w' := w
    unfold sw_lf at w'
    rw [if_neg w']
    refine br_t rfl ⟨vp_in_nI hi (by decide), vp_in_nI hi (by decide), ?_⟩
    intro y ey z ez
    rw [sw_at _ (by omega), nI_1, sw_upd _ (by omega), show sw_dn f i i = f i - 1 from if_pos rfl, sw_dn_back h0] at ey
    rw [ey, ez, nI_1]
    exact h2 w
theorem sw_y37 {post : Int32 → SY → Prop} {J2 : Int32 → (Nat → Int32) → (Nat → Int32) → (Nat → Int32) → (Nat → Int32) → (Nat → Int32) → (Nat → Int32) → Prop} {i : Nat} (hC : sw_C a b) (hf : ∀ s, s < 10 → f s ≤ 2) (hc : c < 6) (hi : i < 10) (h0 : 0 < f i) (h1 : sw_af a (sw_lf (sw_dn f i)) (sw_rd a b (sw_lf (sw_dn f i)) (2 ^ sw_ot a b c i) 6) 10 = true → post (nI i) (T, sw_na a, sw_na b, L, sw_na (sw_dn f i), N)) (h2 : ¬ sw_af a (sw_lf (sw_dn f i)) (sw_rd a b (sw_lf (sw_dn f i)) (2 ^ sw_ot a b c i) 6) 10 = true → J2 (nI (i + 1)) T (sw_na a) (sw_na b) L (sw_na f) N) : wY_nextStreet_37 post J2 (nI c) (nI i) T (sw_na a) (sw_na b) L (sw_na f) N := by
  have ha := hC.1 i
  refine ⟨vp_in_nI hi (by decide), vp_in_nI hi (by decide), ?_⟩
  intro y ey
  have ed : nI (f i) - 1 = nI (f i - 1) := pk_sub (b := 1) h0
  rw [sw_at _ (by omega), ed, sw_upd _ (by omega)] at ey
  have ey : y = sw_na (sw_dn f i) := ey
  subst ey
  rw [sw_at a (by omega), sw_at b (by omega)]
  refine ⟨vp_in_nI hi (by decide), ?_⟩
  have q := sw_y72 (post := post) (J2 := J2) (x1 := nI c) (c := c) (T := T) (N := N) (L := L) hC hf hi h0 h1 h2
  by_cases e1 : a i = c
  · rw [show sw_ot a b c i = b i from if_pos e1] at q
    exact br_t (by rw [e1]) ⟨vp_in_nI hi (by decide), q⟩
  · rw [show sw_ot a b c i = a i from if_neg e1] at q
    exact br_f (sw_ne (by omega) (by omega) e1) ⟨vp_in_nI hi (by decide), q⟩
theorem sw_ystep {post : Int32 → SY → Prop} (hC : sw_C a b) (hf : ∀ s, s < 10 → f s ≤ 2) (hc : c < 6) (h : ∀ s, s < 10 → sw_ok a b f c s → (∀ j, j < s → ¬ sw_ok a b f c j) → post (nI s) (T, sw_na a, sw_na b, L, sw_na (sw_dn f s), N)) (h0 : (∀ j, j < 10 → ¬ sw_ok a b f c j) → post (-1) (T, sw_na a, sw_na b, L, sw_na f, N)) : wpY_nextStreet post (T, sw_na a, sw_na b, L, sw_na f, N) (nI c) := by
  refine loop_0 (fun n i (_ : Unit) => wY_nextStreet_2 post (nI c) n (nI i) T (sw_na a) (sw_na b) L (sw_na f) N) (fun i _ => ∀ j, j < i → ¬ sw_ok a b f c j) 10 () (fun j hj => absurd hj (Nat.not_lt_zero j)) ?_ ?_
  · intro n _ hs
    exact br_t (by decide) (h0 hs)
  · intro n i _ hi hs hn
    have ha := hC.1 i
    have hb := hC.2 i
    have skip' : ¬ sw_ok a b f c i → wY_nextStreet_2 post (nI c) n (nI (i + 1)) T (sw_na a) (sw_na b) L (sw_na f) N := by
      intro q
      refine hn () ?_
      intro j hj
      rcases Nat.lt_or_ge j i with w | w
      · exact hs j w
      · obtain rfl : j = i := by omega
        exact q
    have skip : ¬ sw_ok a b f c i → ∀ z, z = nI i + 1 → wY_nextStreet_2 post (nI c) n z T (sw_na a) (sw_na b) L (sw_na f) N := by
      intro q z ez
      rw [ez, nI_1]
      exact skip' q
    refine br_f (nI_ge (b := 10) hi (by decide)) ⟨vp_in_nI hi (by decide), ?_⟩
    rw [sw_at f (by omega), sw_at a (by omega), sw_at b (by omega)]
    have h2 := hf i hi
    by_cases c0 : 0 < f i
    · refine br_f (nI_nle c0 (by omega)) ⟨vp_in_nI hi (by decide), ?_⟩
      by_cases e1 : a i = c
      · refine br_t (by rw [e1]) ?_
        exact sw_y37 hC hf hc hi c0 (fun w => h i hi ⟨c0, Or.inl e1, w⟩ hs) (fun w => skip' (fun q => w q.2.2))
      · refine br_f (sw_ne (by omega) (by omega) e1) ⟨vp_in_nI hi (by decide), ?_⟩
        by_cases e2 : b i = c
        · refine br_t (by rw [e2]) ?_
          exact sw_y37 hC hf hc hi c0 (fun w => h i hi ⟨c0, Or.inr e2, w⟩ hs) (fun w => skip' (fun q => w q.2.2))
        · exact br_f (sw_ne (by omega) (by omega) e2) (skip (fun q => q.2.1.elim e1 e2))
    · refine br_t ?_ (skip (fun q => c0 q.1))
      rw [show f i = 0 by omega]
      decide
end
end
section
/-! walkAt -/
theorem sw_find {Q : Nat → Prop} : ∀ k, (∀ j, j < k → ¬ Q j) ∨ ∃ s, s < k ∧ Q s ∧ ∀ j, j < s → ¬ Q j
  | 0 => Or.inl (fun j hj => absurd hj (Nat.not_lt_zero j))
  | k + 1 => by
    rcases sw_find (Q := Q) k with h | ⟨s, hs, hQ, hm⟩
    · by_cases q : Q k
      · exact Or.inr ⟨k, by omega, q, h⟩
      · left
        intro j hj
        rcases Nat.lt_or_ge j k with w | w
        · exact h j w
        · obtain rfl : j = k := by omega
          exact q
    · exact Or.inr ⟨s, by omega, hQ, hm⟩
theorem sw_least_u {Q : Nat → Prop} {s t : Nat} (h1 : Q s) (m1 : ∀ j, j < s → ¬ Q j) (h2 : Q t) (m2 : ∀ j, j < t → ¬ Q j) : t = s := by
  rcases Nat.lt_trichotomy t s with q | q | q
  · exact absurd h2 (m1 t q)
  · exact q
  · exact absurd h1 (m2 s q)
section
variable {P : Int32} {a b : Nat → Nat} {L D T N : Nat → Int32}
/-- X and Y go the same walk -/
theorem sw_lock (hC : sw_C a b) {k : Nat} (hk : k < 20) : ∀ d i, i + d = k → ∀ (f : Nat → Nat) (c : Nat), (∀ s, s < 10 → f s ≤ 2) → c < 6 → ∃ r : Int32, (∀ (post : Int32 → Prop) (x7 : Int32), post r → wX_streetOfFirstWalk_18 post (nI k) P (sw_na a) (sw_na b) L D (d + 2) (nI (sw_lf f)) (nI (sw_tw f)) (nI c) x7 (nI i)) ∧ (∀ post : Int32 → SY → Prop, (∀ F', post r (T, sw_na a, sw_na b, L, F', N)) → wY_walkAt_81 post (nI k) (d + 1) (nI c) (nI i) T (sw_na a) (sw_na b) L (sw_na f) N) := by
  intro d
  induction d with
  | zero =>
    intro i hi f c hf hc
    obtain rfl : i = k := by omega
    rcases sw_find (Q := sw_ok a b f c) 10 with h | ⟨s, hs, hok, hmin⟩
    · refine ⟨-1, fun post x7 hp => ?_, fun post hp => ?_⟩
      · refine br_f (nI_nlt (Nat.le_refl _) (by omega)) (br_f (nI_ge (b := 20) hk (by decide)) ?_)
        refine sw_xstep hC hc (fun t ht hok _ => absurd hok (h t ht)) (fun _ => br_t rfl hp)
      · refine br_f (nI_nlt (Nat.le_refl _) (by omega)) ?_
        refine sw_ystep hC hf hc (fun t ht hok _ => absurd hok (h t ht)) (fun _ => ?_)
        exact br_t (by decide) (hp _)
    · refine ⟨nI s, fun post x7 hp => ?_, fun post hp => ?_⟩
      · refine br_f (nI_nlt (Nat.le_refl _) (by omega)) (br_f (nI_ge (b := 20) hk (by decide)) ?_)
        refine sw_xstep hC hc (fun t ht hok' hmin' => ?_) (fun z => absurd hok (z s hs))
        obtain rfl := sw_least_u hok hmin hok' hmin'
        refine br_f (sw_nm1 (by omega)) ?_
        refine sw_xot hC hc ht (sw_xla ht ?_)
        intro y ey z ez
        rw [ez, nI_1]
        exact br_t (nI_lt (by omega) (by omega)) hp
      · refine br_f (nI_nlt (Nat.le_refl _) (by omega)) ?_
        refine sw_ystep hC hf hc (fun t ht hok' hmin' => ?_) (fun z => absurd hok (z s hs))
        obtain rfl := sw_least_u hok hmin hok' hmin'
        exact br_f (nI_pos (by omega)) (br_t rfl (hp _))
  | succ d ih =>
    intro i hi f c hf hc
    rcases sw_find (Q := sw_ok a b f c) 10 with h | ⟨s, hs, hok, hmin⟩
    · refine ⟨-1, fun post x7 hp => ?_, fun post hp => ?_⟩
      · refine br_f (nI_nlt (by omega) (by omega)) (br_f (nI_ge (b := 20) (by omega) (by decide)) ?_)
        refine sw_xstep hC hc (fun t ht hok _ => absurd hok (h t ht)) (fun _ => br_t rfl hp)
      · refine br_f (nI_nlt (by omega) (by omega)) ?_
        refine sw_ystep hC hf hc (fun t ht hok _ => absurd hok (h t ht)) (fun _ => ?_)
        exact br_t (by decide) (hp _)
    · obtain ⟨r, hX, hY⟩ := ih (i + 1) (by omega) (sw_dn f s) (sw_ot a b c s) (sw_dn_2 s hf) (sw_ot6 hC c s)
      refine ⟨r, fun post x7 hp => ?_, fun post hp => ?_⟩
      · refine br_f (nI_nlt (by omega) (by omega)) (br_f (nI_ge (b := 20) (by omega) (by decide)) ?_)
        refine sw_xstep hC hc (fun t ht hok' hmin' => ?_) (fun z => absurd hok (z s hs))
        obtain rfl := sw_least_u hok hmin hok' hmin'
        refine br_f (sw_nm1 (by omega)) ?_
        refine sw_xot hC hc ht (sw_xla ht ?_)
        intro y ey z ez
        rw [sw_clrI (sw_tw_lt f) ht, ← sw_tw_dn (hf _ ht)] at ey
        rw [ez, nI_1, ey]
        exact hX post _ hp
      · refine br_f (nI_nlt (by omega) (by omega)) ?_
        refine sw_ystep hC hf hc (fun t ht hok' hmin' => ?_) (fun z => absurd hok (z s hs))
        obtain rfl := sw_least_u hok hmin hok' hmin'
        have ha := hC.1 t
        refine br_f (nI_pos (by omega)) (br_f (sw_ne (by omega) (by omega) (by omega)) ⟨vp_in_nI ht (by decide), ?_⟩)
        rw [sw_at a (by omega), sw_at b (by omega)]
        have q := hY post hp
        by_cases e1 : a t = c
        · rw [show sw_ot a b c t = b t from if_pos e1] at q
          refine br_t (by rw [e1]) ⟨vp_in_nI ht (by decide), ?_⟩
          intro y ey z ez
          rw [ez, nI_1, ey]
          exact q
        · rw [show sw_ot a b c t = a t from if_neg e1] at q
          refine br_f (sw_ne (by omega) (by omega) e1) ⟨vp_in_nI ht (by decide), ?_⟩
          intro y ey z ez
          rw [ez, nI_1, ey]
          exact q
theorem sw_sum_dn {f : Nat → Nat} {s : Nat} (h : 0 < f s) : ∀ k, s < k → sw_sum (sw_dn f s) k + 1 ≤ sw_sum f k := by
  intro k hk
  have le : ∀ c, sw_dn f s c ≤ f c := by
    intro c
    unfold sw_dn sw_up
    split
    · rename_i e; rw [e]; omega
    · exact Nat.le_refl _
  exact sw_sum_lt le (i := s) (by rw [show sw_dn f s s = f s - 1 from if_pos rfl]; omega) k hk
theorem sw_sum_0 {f : Nat → Nat} {s : Nat} (h : 0 < f s) {k : Nat} (hk : s < k) : 0 < sw_sum f k := by
  have := sw_sum_dn h k hk
  omega
/-- a walk that is over answers -1 -/
theorem sw_over (hC : sw_C a b) {k : Nat} (hk : k < 20) {post : Int32 → SY → Prop} (hp : ∀ F', post (-1) (T, sw_na a, sw_na b, L, F', N)) : ∀ d i, i + d = k → ∀ (f : Nat → Nat) (c : Nat), (∀ s, s < 10 → f s ≤ 2) → c < 6 → (sw_sum f 10 ≤ d ∨ ∀ j, j < 10 → ¬ sw_ok a b f c j) → wY_walkAt_81 post (nI k) (d + 1) (nI c) (nI i) T (sw_na a) (sw_na b) L (sw_na f) N := by
  intro d
  induction d with
  | zero =>
    intro i hi f c hf hc hsum
    refine br_f (nI_nlt (by omega) (by omega)) ?_
    refine sw_ystep hC hf hc (fun t ht hok _ => ?_) (fun _ => br_t (by decide) (hp _))
    rcases hsum with q | q
    · have := sw_sum_0 hok.1 ht
      omega
    · exact absurd hok (q t ht)
  | succ d ih =>
    intro i hi f c hf hc hsum
    refine br_f (nI_nlt (by omega) (by omega)) ?_
    refine sw_ystep hC hf hc (fun t ht hok _ => ?_) (fun _ => br_t (by decide) (hp _))
    rcases hsum with q | q
    · have w := sw_sum_dn hok.1 10 ht
      have ha := hC.1 t
      have qq := ih (i + 1) (by omega) (sw_dn f t) (sw_ot a b c t) (sw_dn_2 t hf) (sw_ot6 hC c t) (Or.inl (by omega))
      refine br_f (nI_pos (by omega)) (br_f (sw_ne (by omega) (by omega) (by omega)) ⟨vp_in_nI ht (by decide), ?_⟩)
      rw [sw_at a (by omega), sw_at b (by omega)]
      by_cases e1 : a t = c
      · rw [show sw_ot a b c t = b t from if_pos e1] at qq
        refine br_t (by rw [e1]) ⟨vp_in_nI ht (by decide), ?_⟩
        intro y ey z ez
        rw [ez, nI_1, ey]
        exact qq
      · rw [show sw_ot a b c t = a t from if_neg e1] at qq
        refine br_f (sw_ne (by omega) (by omega) e1) ⟨vp_in_nI ht (by decide), ?_⟩
        intro y ey z ez
        rw [ez, nI_1, ey]
        exact qq
    · exact absurd hok (q t ht)
end
theorem sw_ofI (F : Nat → Int32) : ∃ f, F = sw_na f := ⟨fun s => (F s).toBitVec.toNat, by
  funext s
  apply Int32.toBitVec_inj.mp
  show _ = BitVec.ofNat 32 _
  simp⟩
section
variable {a b l : Nat → Nat} {D F N : Nat → Int32} {p m : Nat} {v1 v2 : Int32}
theorem sw_ywa_neg {Q : Int32 → SY → Prop} (G : sw_G p a b l) (hm : m < 1024) (hb : sw_best (sw_F a b p 0 p) l (nI m)) (hc : sw_con a b p) (h : ¬ sw_isC v1 ∨ ¬ ∃ j, j < 20 ∧ v2 = nI j) (hQ : Q (-1) (sw_na (sw_tb p), sw_na a, sw_na b, sw_na l, F, N)) : wpY_walkAt Q (sw_na (sw_tb p), sw_na a, sw_na b, sw_na l, F, N) v1 v2 := by
  unfold wpY_walkAt
  dsimp only
  refine sw_ystreets G.1 (sw_yset G (fun r8 h8 => sw_ywl G (fun r15 h15 => ?_)))
  refine br_c (fun _ => hQ) (fun _ => ?_)
  refine sw_yisC (fun c1 => br_f (by decide) ?_) (fun c1 => br_t rfl hQ)
  rcases h with h | h
  · exact absurd c1 h
  · refine br_c (fun _ => hQ) (fun z => br_c (fun w => ?_) (fun _ => hQ))
    rcases pk_ix v2 (n := 20) (by decide) with q | q | q
    · exact absurd q z
    · exact (Int32.lt_irrefl (Int32.lt_of_lt_of_le w q)).elim
    · exact absurd q h
def sw_fi (f0 : Nat → Nat) (p m i : Nat) : Nat → Nat := fun s => if s < i then sw_tb p s + sw_tb m s else f0 s
theorem sw_ywa_pos {f0 : Nat → Nat} {Q : Int32 → SY → Prop} {c j : Nat} (G : sw_G p a b l) (hm : m < 1024) (hb : sw_best (sw_F a b p 0 p) l (nI m)) (hcon : sw_con a b p) (hc : c < 6) (hj : j < 20) (h : wY_walkAt_81 Q (nI j) (j + 1) (nI c) (nI 0) (sw_na (sw_tb p)) (sw_na a) (sw_na b) (sw_na l) (sw_na (sw_fi f0 p m 10)) N) : wpY_walkAt Q (sw_na (sw_tb p), sw_na a, sw_na b, sw_na l, sw_na f0, N) (nI c) (nI j) := by
  unfold wpY_walkAt
  dsimp only
  refine sw_ystreets G.1 (sw_yset G (fun r8 h8 => sw_ywl G (fun r15 h15 => ?_)))
  have e8 := sw_best_u hb h8
  subst e8
  have hlp := sw_len_le G.2.2.1 p 10
  have hlm := sw_len_le G.2.2.1 m 10
  have e15 := sw_WL_u ⟨_, hb, Or.inr ⟨hcon, m, hm, rfl, rfl⟩⟩ h15
  subst e15
  have hp := G.1
  refine br_f (nI_pos (by omega)) ?_
  refine sw_yisC (fun c1 => br_f (by decide) ?_) (fun c1 => absurd ⟨c, hc, rfl⟩ c1)
  refine br_f (nI_pos (by omega)) (br_t (nI_lt (b := 20) hj (by decide)) ?_)
  refine loop_0 (fun n i F => wY_walkAt_41 Q (nI c) (nI j) (nI p) (nI m) n (nI i) (sw_na (sw_tb p)) (sw_na a) (sw_na b) (sw_na l) F N) (fun i F => F = sw_na (sw_fi f0 p m i)) 10 _ ?_ ?_ ?_
  · congr 1
  · intro n F hF
    subst hF
    exact br_t (by decide) ⟨_, h⟩
  · intro n i F hi hF hn
    subst hF
    refine br_f (nI_ge (b := 10) hi (by decide)) ⟨vp_in_nI hi (by decide), ?_⟩
    intro y ey z ez
    rw [sw_bitI (by omega) (by omega), sw_bitI (by omega) (by omega), nI_add, sw_upd _ (by omega)] at ey
    rw [ez, nI_1, ey]
    refine hn _ ?_
    congr 1
    funext s
    unfold sw_up sw_fi
    by_cases e : s = i
    · subst e
      rw [if_pos (show s = s from rfl), if_pos (show s < s + 1 by omega)]; rfl
    · rw [if_neg e]
      by_cases w : s < i
      · rw [if_pos w, if_pos (by omega)]
      · rw [if_neg w, if_neg (by omega)]
end
theorem sw_sz_sum (x : Nat) : ∀ k, sw_sum (sw_tb x) k = sw_sz x k
  | 0 => rfl
  | k + 1 => by rw [sw_sum, sw_sz, sw_sz_sum x k]; rfl
theorem sw_sum_add {f g h : Nat → Nat} : ∀ k, (∀ s, s < k → f s = g s + h s) → sw_sum f k = sw_sum g k + sw_sum h k
  | 0, _ => rfl
  | k + 1, q => by
    rw [sw_sum, sw_sum, sw_sum, sw_sum_add k (fun s hs => q s (by omega)), q k (by omega)]
    omega
theorem sw_tb_1 (x s : Nat) : sw_tb x s ≤ 1 := by
  unfold sw_tb
  split <;> omega
theorem sw_tb_pos (x s : Nat) : 0 < sw_tb x s ↔ x.testBit s = true := by
  unfold sw_tb
  split
  · rename_i h; simp [h]
  · rename_i h; simp [h]
theorem i_vc_walkAt {k : Nat} {u : SX} {v : SY} (I : i_Rel k u v) (hk : k + 4 ≤ 2048) (v1 : Int32) (v2 : Int32) : wpX_walkAt (fun r => wpY_walkAt (fun r' v' => r' = r ∧ i_Rel (k + 4) u v') v v1 v2) u v1 v2 := by
  obtain ⟨p, a, b, l, D, F, N, rfl, rfl, G⟩ := I
  obtain ⟨hp, hC, hl, hne⟩ := id G
  obtain ⟨f0, rfl⟩ := sw_ofI F
  unfold wpX_walkAt
  dsimp only
  refine sw_xcorn hC hp ?_
  have hK := sw_co64 hC p 10
  refine sw_xwl G (fun r hr => ?_)
  obtain ⟨r0, hb, hcase⟩ := id hr
  rcases hcase with ⟨rfl, _⟩ | ⟨hcon, m, hm, rfl, rfl⟩
  · refine br_t rfl ?_
    unfold wpY_walkAt
    dsimp only
    refine sw_ystreets hp (sw_yset G (fun r8 h8 => sw_ywl G (fun r15 h15 => ?_)))
    have e := sw_WL_u hr h15
    subst e
    exact br_t (by decide) ⟨rfl, sw_rel G⟩
  · have hlp := sw_len_le hl p 10
    have hlm := sw_len_le hl m 10
    have s1 := sw_sz_le p 10
    have s2 := sw_sz_le m 10
    have hsub : sw_sub m p := by
      rcases id hb with ⟨e, _⟩ | ⟨m', hm', e, hF, _⟩
      · exact absurd e (sw_nm1 (by omega))
      · rw [nI_eq (by omega) (by omega)] at e
        subst e
        exact hF.1
    refine br_f (sw_nm1 (by omega)) ?_
    refine sw_xisC (fun c1 => br_f (by decide) ?_) (fun c1 => br_t rfl (sw_ywa_neg G hm hb hcon (Or.inl c1) ⟨rfl, sw_rel G⟩))
    obtain ⟨c, hc, rfl⟩ := id c1
    have hfi : ∀ s, s < 10 → sw_fi f0 p m 10 s = sw_tb p s + sw_tb m s := fun s hs => if_pos hs
    have f2 : ∀ f : Nat → Nat, (∀ s, s < 10 → f s = sw_tb p s + sw_tb m s) → ∀ s, s < 10 → f s ≤ 2 := by
      intro f hf s hs
      have := hf s hs
      have := sw_tb_1 p s
      have := sw_tb_1 m s
      omega
    refine sw_xcont (by omega) (by omega) (fun hbit => br_f (by decide) ?_) (fun hbit => br_t rfl ?_)
    · refine sw_xbest (nd := 0) hC hl hp (by decide) hp (fun r28 h28 => ?_)
      have e28 := sw_best_u hb h28
      subst e28
      rcases pk_ix v2 (n := 20) (by decide) with q | q | ⟨j, hj, rfl⟩
      · refine br_t q (sw_ywa_neg G hm hb hcon (Or.inr ?_) ⟨rfl, sw_rel G⟩)
        rintro ⟨j, hj, rfl⟩
        exact absurd q (nI_pos (by omega))
      · have hno : ¬ ∃ j, j < 20 ∧ v2 = nI j := by
          rintro ⟨j, hj, rfl⟩
          exact absurd q (nI_ge hj (by decide))
        refine br_c (fun _ => sw_ywa_neg G hm hb hcon (Or.inr hno) ⟨rfl, sw_rel G⟩) (fun _ => ?_)
        refine sw_xsz hp (sw_xsz hm ?_)
        rw [nI_add]
        refine br_f ?_ (sw_ywa_neg G hm hb hcon (Or.inr hno) ⟨rfl, sw_rel G⟩)
        intro w
        have w2 := Int32.lt_of_le_of_lt q w
        exact absurd w2 (nI_nlt (by omega) (by decide))
      · refine br_f (nI_pos (by omega)) ?_
        refine sw_xsz hp (sw_xsz hm ?_)
        rw [nI_add]
        by_cases hjt : j < sw_sz p 10 + sw_sz m 10
        · refine br_t (nI_lt hjt (by omega)) ?_
          have elf : ∀ f : Nat → Nat, (∀ s, s < 10 → f s = sw_tb p s + sw_tb m s) → sw_lf f = p := by
            intro f hf
            apply sw_ext (sw_lf_lt _) hp
            intro i hi
            rw [sw_lf_bit hi, hf i hi]
            have q1 := sw_tb_pos p i
            have q2 := sw_tb_pos m i
            have q3 := hsub i
            cases e : p.testBit i with
            | true => rw [e] at q1; exact decide_eq_true (by have := q1.mpr rfl; omega)
            | false =>
              rw [e] at q1 q3
              apply decide_eq_false
              intro z
              have z1 : ¬ 0 < sw_tb p i := fun w => absurd (q1.mp w) (by decide)
              have z2 : 0 < sw_tb m i := by omega
              exact absurd (q3 (q2.mp z2)) (by decide)
          have etw : ∀ f : Nat → Nat, (∀ s, s < 10 → f s = sw_tb p s + sw_tb m s) → sw_tw f = m := by
            intro f hf
            apply sw_ext (sw_tw_lt _) hm
            intro i hi
            rw [sw_tw_bit hi, hf i hi]
            have q1 := sw_tb_pos p i
            have q2 := sw_tb_pos m i
            have q3 := hsub i
            have t1 := sw_tb_1 p i
            have t2 := sw_tb_1 m i
            cases e : m.testBit i with
            | true =>
              rw [e] at q2
              have z1 := q1.mpr (q3 e)
              have z2 := q2.mpr rfl
              exact decide_eq_true (by omega)
            | false =>
              rw [e] at q2
              have z2 : ¬ 0 < sw_tb m i := fun w => absurd (q2.mp w) (by decide)
              exact decide_eq_false (by omega)
          obtain ⟨r, hX, hY⟩ := sw_lock (P := nI p) (L := sw_na l) (D := D) (T := sw_na (sw_tb p)) (N := N) hC hj j 0 (by omega) (sw_fi f0 p m 10) c (f2 _ hfi) hc
          rw [elf _ hfi, etw _ hfi] at hX
          refine ⟨_, hX _ (-1) ?_⟩
          exact sw_ywa_pos G hm hb hcon hc hj (hY _ (fun F' => ⟨rfl, sw_rel G⟩))
        · refine br_f (nI_nlt (by omega) (by omega)) ?_
          refine sw_ywa_pos G hm hb hcon hc hj ?_
          refine sw_over hC hj (fun F' => ⟨rfl, sw_rel G⟩) j 0 (by omega) _ c (f2 _ hfi) hc (Or.inl ?_)
          rw [sw_sum_add 10 hfi, sw_sz_sum, sw_sz_sum]
          omega
    · rcases pk_ix v2 (n := 20) (by decide) with q | q | ⟨j, hj, rfl⟩
      · refine sw_ywa_neg G hm hb hcon (Or.inr ?_) ⟨rfl, sw_rel G⟩
        rintro ⟨j, hj, rfl⟩
        exact absurd q (nI_pos (by omega))
      · refine sw_ywa_neg G hm hb hcon (Or.inr ?_) ⟨rfl, sw_rel G⟩
        rintro ⟨j, hj, rfl⟩
        exact absurd q (nI_ge hj (by decide))
      · refine sw_ywa_pos G hm hb hcon hc hj ?_
        refine sw_over hC hj (fun F' => ⟨rfl, sw_rel G⟩) j 0 (by omega) _ c (f2 _ hfi) hc (Or.inr ?_)
        intro s hs hok
        have hx : p.testBit s = true := by
          cases e : p.testBit s with
          | true => rfl
          | false =>
            have z1 : ¬ 0 < sw_tb p s := fun w => absurd ((sw_tb_pos p s).mp w) (by rw [e]; decide)
            have z2 : ¬ 0 < sw_tb m s := fun w => absurd (hsub s ((sw_tb_pos m s).mp w)) (by rw [e]; decide)
            have := hfi s hs
            have := hok.1
            omega
        have z := (sw_co_bit (a := a) (b := b) (x := p) 10 c).mpr ⟨s, hs, hx, hok.2.1⟩
        rw [hbit] at z
        exact absurd z (by decide)
end
