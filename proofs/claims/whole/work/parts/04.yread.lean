/-! Y's reading methods -/
def sw_ms (f : Nat → Bool) : Nat → Nat
  | 0 => 0
  | k + 1 => if f k = true then sw_ms f k ||| 2 ^ k else sw_ms f k
theorem sw_ms_bit (f : Nat → Bool) (i : Nat) : ∀ k, (sw_ms f k).testBit i = (decide (i < k) && f i)
  | 0 => by simp [sw_ms]
  | k + 1 => by
    have ih := sw_ms_bit f i k
    unfold sw_ms
    by_cases hk : f k = true
    · rw [if_pos hk, Nat.testBit_or, ih, sw_pbit]
      by_cases e : k = i
      · subst e; simp [hk]
      · have e1 : decide (k = i) = false := decide_eq_false e
        have e2 : decide (i < k + 1) = decide (i < k) := by
          apply decide_eq_decide.mpr; omega
        rw [e1, e2, Bool.or_false]
    · rw [if_neg hk, ih]
      by_cases e : k = i
      · subst e; simp [hk]
      · have e2 : decide (i < k + 1) = decide (i < k) := by
          apply decide_eq_decide.mpr; omega
        rw [e2]
theorem sw_ms_lt (f : Nat → Bool) : sw_ms f 10 < 1024 := by
  apply Nat.lt_pow_two_of_testBit (n := 10)
  intro i hi
  rw [sw_ms_bit, decide_eq_false (by omega)]; rfl
theorem sw_ms_self {p : Nat} (hp : p < 1024) : sw_ms (fun s => p.testBit s) 10 = p := by
  apply sw_ext (sw_ms_lt _) hp
  intro i hi
  rw [sw_ms_bit, decide_eq_true hi]; rfl
def sw_rev (c : Nat) : Nat := sw_ms (fun s => c.testBit (9 - s)) 10
theorem sw_rev_lt (c : Nat) : sw_rev c < 1024 := sw_ms_lt _
theorem sw_rev_bit (c i : Nat) : (sw_rev c).testBit i = (decide (i < 10) && c.testBit (9 - i)) := sw_ms_bit _ i 10
theorem sw_rev_rev {c : Nat} (hc : c < 1024) : sw_rev (sw_rev c) = c := by
  apply sw_ext (sw_rev_lt _) hc
  intro i hi
  rw [sw_rev_bit, sw_rev_bit, decide_eq_true hi, decide_eq_true (show 9 - i < 10 by omega), show 9 - (9 - i) = i by omega]; rfl
theorem sw_ltbit {x y : Nat} (t : Nat) (hx : x.testBit t = false) (hy : y.testBit t = true) (h : ∀ i, t < i → x.testBit i = y.testBit i) : x < y := by
  have e : x / 2 ^ (t + 1) = y / 2 ^ (t + 1) := by
    apply Nat.eq_of_testBit_eq
    intro i
    rw [Nat.testBit_div_two_pow, Nat.testBit_div_two_pow]
    exact h _ (by omega)
  rw [Nat.pow_succ, ← Nat.div_div_eq_div_mul, ← Nat.div_div_eq_div_mul] at e
  rw [Nat.testBit_eq_decide_div_mod_eq] at hx hy
  have h1 := of_decide_eq_false hx
  have h2 := of_decide_eq_true hy
  rcases Nat.lt_or_ge x y with g | g
  · exact g
  · have := Nat.div_le_div_right (c := 2 ^ t) g
    omega
theorem sw_rev_lt_of {s o t : Nat} (ht : t < 10) (hs : s.testBit t = false) (ho : o.testBit t = true) (h : ∀ i, i < t → s.testBit i = o.testBit i) : sw_rev s < sw_rev o := by
  apply sw_ltbit (9 - t)
  · rw [sw_rev_bit, show 9 - (9 - t) = t by omega, hs, Bool.and_false]
  · rw [sw_rev_bit, show 9 - (9 - t) = t by omega, ho, decide_eq_true (by omega)]; rfl
  · intro i hi
    rw [sw_rev_bit, sw_rev_bit]
    rcases Nat.lt_or_ge i 10 with g | g
    · rw [h (9 - i) (by omega)]
    · rw [decide_eq_false (by omega)]; rfl
def sw_tb (p : Nat) : Nat → Nat := fun s => if p.testBit s = true then 1 else 0
theorem sw_xe : ∀ i, i < 6 → ∀ j, j < 6 → i ≠ j → 2 ^ i ^^^ 2 ^ j = 2 ^ i ||| 2 ^ j := by decide
theorem sw_shl0 : ∀ j, j < 32 → (0 : Int32) <<< (nI j &&& 31) = 0 := by decide +kernel
section
variable {post : Int32 → Prop} {p x : Nat} {a b l f : Nat → Nat} {T A B L F N : Nat → Int32}
theorem sw_ystreets (hp : p < 1024) (h : post (nI p)) : wpY_streets post (sw_na (sw_tb p), A, B, L, F, N) := by
  refine loop_0 (fun n i s => wY_streets_4 post (sw_na (sw_tb p)) A B L F N n s (nI i)) (fun i s => s = nI (sw_ms (fun s => p.testBit s) i)) 10 0 rfl ?_ ?_
  · intro n s hs
    subst hs
    rw [sw_ms_self hp]
    exact br_t (by decide) h
  · intro n i s hi hs hn
    subst hs
    refine br_f (nI_ge (b := 10) hi (by decide)) ?_
    refine ⟨vp_in_nI hi (by decide), ?_⟩
    rw [sw_at _ (by omega)]
    cases hb : p.testBit i with
    | true =>
      refine br_f (by simp [sw_tb, hb]; decide) ?_
      intro y hy z hz
      rw [hy, hz, nI_1, sw_setI _ hi]
      exact hn _ (by simp [sw_ms, hb])
    | false =>
      refine br_t (by simp [sw_tb, hb]; rfl) ?_
      intro y hy z hz
      rw [hy, hz, nI_1, Int32.or_zero]
      exact hn _ (by simp [sw_ms, hb])
theorem sw_yoddOf (hC : sw_C a b) (hx : x < 1024) (hne : ∀ s, x.testBit s = true → a s ≠ b s) (h : post (nI (sw_od a b x 10))) : wpY_oddOf post (T, sw_na a, sw_na b, L, F, N) (nI x) := by
  refine loop_0 (fun n i s => wY_oddOf_4 post (nI x) T (sw_na a) (sw_na b) L F N n s (nI i)) (fun i s => s = nI (sw_od a b x i)) 10 0 rfl ?_ ?_
  · intro n s hs
    subst hs
    exact br_t (by decide) h
  · intro n i s hi hs hn
    subst hs
    have hai := hC.1 i
    have hbi := hC.2 i
    refine br_f (nI_ge (b := 10) hi (by decide)) ?_
    cases hb : x.testBit i with
    | true =>
      refine br_t (sw_b1 (by omega) (by omega) hb) ?_
      refine ⟨vp_in_nI hi (by decide), vp_in_nI hi (by decide), ?_⟩
      intro y hy z hz
      rw [sw_at a (by omega), sw_at b (by omega), sw_shl _ (by omega), sw_shl _ (by omega), nx_xor, nx_xor, Nat.xor_assoc, sw_xe _ hai _ hbi (hne i hb)] at hy
      rw [hy, hz, nI_1]
      exact hn _ (by simp [sw_od, hb, sw_e])
    | false =>
      refine br_f (sw_bn1 (by omega) (by omega) hb) ?_
      intro z hz
      rw [hz, nI_1]
      exact hn _ (by simp [sw_od, hb])
theorem sw_yodd (hC : sw_C a b) (hp : p < 1024) (hne : ∀ s, p.testBit s = true → a s ≠ b s) (h : post (nI (sw_od a b p 10))) : wpY_odd post (sw_na (sw_tb p), sw_na a, sw_na b, L, F, N) :=
  sw_ystreets hp (sw_yoddOf hC hp hne h)
theorem sw_ylen (hx : x < 1024) (h : post (nI (sw_len l x 10))) : wpY_lengthOf post (T, A, B, sw_na l, F, N) (nI x) := by
  refine loop_0 (fun n i s => wY_lengthOf_4 post (nI x) T A B (sw_na l) F N n s (nI i)) (fun i s => s = nI (sw_len l x i)) 10 0 rfl ?_ ?_
  · intro n s hs
    subst hs
    exact br_t (by decide) h
  · intro n i s hi hs hn
    subst hs
    refine br_f (nI_ge (b := 10) hi (by decide)) ?_
    cases hb : x.testBit i with
    | true =>
      refine br_t (sw_b1 (by omega) (by omega) hb) ?_
      refine ⟨vp_in_nI hi (by decide), ?_⟩
      intro y hy z hz
      rw [hy, hz, nI_1, sw_at l (by omega), nI_add]
      exact hn _ (by simp [sw_len, hb])
    | false =>
      refine br_f (sw_bn1 (by omega) (by omega) hb) ?_
      intro y hy z hz
      rw [hy, hz, nI_1, Int32.add_zero]
      exact hn _ (by simp [sw_len, hb])
theorem sw_ysetOf {v : SY} (hx : x < 1024) (h : post (nI (sw_rev x))) : wpY_setOf post v (nI x) := by
  obtain ⟨T, A, B, L, F, N⟩ := v
  refine loop_0 (fun n i s => wY_setOf_4 post (nI x) T A B L F N n s (nI i)) (fun i s => s = nI (sw_ms (fun s => x.testBit (9 - s)) i)) 10 0 rfl ?_ ?_
  · intro n s hs
    subst hs
    exact br_t (by decide) h
  · intro n i s hi hs hn
    subst hs
    refine br_f (nI_ge (b := 10) hi (by decide)) ?_
    intro y hy z hz
    rw [show (9 : Int32) - nI i = nI (9 - i) from pk_sub (a := 9) (by omega)] at hy
    cases hb : x.testBit (9 - i) with
    | true =>
      rw [sw_b1 (by omega) (by omega) hb, sw_setI _ hi] at hy
      rw [hy, hz, nI_1]
      exact hn _ (by simp [sw_ms, hb])
    | false =>
      rw [sw_b0 (by omega) (by omega) hb, sw_shl0 _ (by omega), Int32.or_zero] at hy
      rw [hy, hz, nI_1]
      exact hn _ (by simp [sw_ms, hb])
theorem sw_yrest (hf : ∀ s, s < 10 → f s < 2 ^ 31) (h : post (nI (sw_ms (fun s => decide (0 < f s)) 10))) : wpY_rest post (T, A, B, L, sw_na f, N) := by
  refine loop_0 (fun n i s => wY_rest_4 post T A B L (sw_na f) N n s (nI i)) (fun i s => s = nI (sw_ms (fun s => decide (0 < f s)) i)) 10 0 rfl ?_ ?_
  · intro n s hs
    subst hs
    exact br_t (by decide) h
  · intro n i s hi hs hn
    subst hs
    refine br_f (nI_ge (b := 10) hi (by decide)) ?_
    refine ⟨vp_in_nI hi (by decide), ?_⟩
    rw [sw_at _ (by omega)]
    by_cases hb : 0 < f i
    · refine br_f (nI_nle hb (hf i hi)) ?_
      intro y hy z hz
      rw [hy, hz, nI_1, sw_setI _ hi]
      exact hn _ (by simp [sw_ms, hb])
    · refine br_t (by rw [show f i = 0 by omega]; decide) ?_
      intro y hy z hz
      rw [hy, hz, nI_1, Int32.or_zero]
      exact hn _ (by simp [sw_ms, hb])
theorem sw_yreach {c : Nat} (hC : sw_C a b) (hx : x < 1024) (hc : c < 6) (h : post (nI (sw_rd a b x (2 ^ c) 6))) : wpY_reached post (T, sw_na a, sw_na b, L, F, N) (nI c) (nI x) := by
  have hr : 2 ^ c < 64 := sw_p64 c hc
  have H : ∀ d j, j + d = 6 → wY_reached_7 post (nI x) T (sw_na a) (sw_na b) L F N (d + 1) (nI (sw_rd a b x (2 ^ c) j)) (nI j) := by
    intro d
    induction d with
    | zero =>
      intro j hj
      obtain rfl : j = 6 := by omega
      exact br_t (by decide) h
    | succ d ih =>
      intro j hj
      refine br_f (nI_ge (b := 6) (by omega) (by decide)) ?_
      refine loop_0 (fun n i s => wY_reached_17 post (wY_reached_7 post (nI x) T (sw_na a) (sw_na b) L F N (d + 1)) (nI x) (nI j) T (sw_na a) (sw_na b) L F N n s (nI i)) (fun i s => s = nI (sw_sp a b x (sw_rd a b x (2 ^ c) j) i)) 10 _ rfl ?_ ?_
      · intro n s hs
        subst hs
        refine br_t (by decide) ?_
        intro y hy
        rw [hy, nI_1]
        exact ih (j + 1) (by omega)
      · intro n i s hi hs hn
        subst hs
        have h64 := sw_sp64 hC x (sw_rd64 hC x hr j) i
        have hai := hC.1 i
        have hbi := hC.2 i
        refine br_f (nI_ge (b := 10) hi (by decide)) ?_
        refine ⟨vp_in_nI hi (by decide), vp_in_nI hi (by decide), ?_⟩
        intro w hw
        rw [sw_at a (by omega), sw_at b (by omega), sw_shl _ (by omega), sw_shl _ (by omega), sw_or] at hw
        have hw : w = nI (sw_e a b i) := hw
        subst hw
        cases hb : x.testBit i with
        | true =>
          refine br_t (sw_b1 (by omega) (by omega) hb) ?_
          have hle := Nat.and_le_left (n := sw_sp a b x (sw_rd a b x (2 ^ c) j) i) (m := sw_e a b i)
          by_cases hz : sw_sp a b x (sw_rd a b x (2 ^ c) j) i &&& sw_e a b i = 0
          · refine br_t (by rw [nx_and, hz]; rfl) ?_
            intro z ez
            rw [ez, nI_1]
            exact hn _ (by simp [sw_sp, sw_st, hz])
          · refine br_f (by rw [nx_and, sw_e0 (by omega)]; exact hz) ?_
            intro y ey z ez
            rw [ey, ez, nI_1, sw_or]
            exact hn _ (by simp [sw_sp, sw_st, hz, hb])
        | false =>
          refine br_f (sw_bn1 (by omega) (by omega) hb) ?_
          intro z ez
          rw [ez, nI_1]
          exact hn _ (by simp [sw_sp, sw_st, hb])
  exact nm_r (sw_shl c (by omega)) ⟨7, H 6 0 rfl⟩
def sw_af (a : Nat → Nat) (x R : Nat) : Nat → Bool
  | 0 => true
  | k + 1 => sw_af a x R k && (!x.testBit k || R.testBit (a k))
theorem sw_af_iff (a : Nat → Nat) (x R : Nat) : ∀ k, sw_af a x R k = true ↔ ∀ s, s < k → x.testBit s = true → R.testBit (a s) = true
  | 0 => by simp [sw_af]
  | k + 1 => by
    rw [sw_af, Bool.and_eq_true, sw_af_iff a x R k]
    constructor
    · intro h s hs hx
      rcases Nat.lt_or_ge s k with g | g
      · exact h.1 s g hx
      · obtain rfl : s = k := by omega
        have h2 := h.2
        rw [hx] at h2
        simpa using h2
    · intro h
      refine ⟨fun s hs => h s (by omega), ?_⟩
      cases hx : x.testBit k with
      | true => simp [h k (by omega) hx]
      | false => rfl
theorem sw_nar (c : Bool) : narrow .boolean (.int (if c = true then 1 else 0)) = .int (if c = true then 1 else 0) := by
  cases c <;> rfl
theorem sw_yallFrom {c : Nat} (hC : sw_C a b) (hx : x < 1024) (hc : c < 6) (h : post (if sw_af a x (sw_rd a b x (2 ^ c) 6) 10 = true then 1 else 0)) : wpY_allFrom post (T, sw_na a, sw_na b, L, F, N) (nI c) (nI x) := by
  refine sw_yreach hC hx hc ?_
  have hR := sw_rd64 hC x (sw_p64 c hc) 6
  generalize sw_rd a b x (2 ^ c) 6 = R at *
  refine loop_0 (fun n i s => wY_allFrom_13 post (nI x) (nI R) T (sw_na a) (sw_na b) L F N n s (nI i)) (fun i s => s = if sw_af a x R i = true then 1 else 0) 10 1 rfl ?_ ?_
  · intro n s hs
    subst hs
    exact br_t (by decide) ⟨sw_nar _, h⟩
  · intro n i s hi hs hn
    subst hs
    have hai := hC.1 i
    refine br_f (nI_ge (b := 10) hi (by decide)) ?_
    cases hf : sw_af a x R i with
    | false =>
      refine br_t rfl ?_
      intro z ez
      rw [ez, nI_1]
      exact hn _ (by simp [sw_af, hf])
    | true =>
      refine br_f (by decide) ?_
      cases hb : x.testBit i with
      | false =>
        refine br_t (sw_b0 (by omega) (by omega) hb) ?_
        intro z ez
        rw [ez, nI_1]
        exact hn _ (by simp [sw_af, hf, hb])
      | true =>
        refine br_f (sw_bn0 (by omega) (by omega) hb) ⟨vp_in_nI hi (by decide), ?_⟩
        rw [sw_at a (by omega)]
        cases hr : R.testBit (a i) with
        | true =>
          refine br_t (sw_b1 (by omega) (by omega) hr) ?_
          intro z ez
          rw [ez, nI_1]
          exact hn _ (by simp [sw_af, hf, hr])
        | false =>
          refine br_f (sw_bn1 (by omega) (by omega) hr) ?_
          intro z ez
          rw [ez, nI_1]
          exact hn _ (by simp [sw_af, hf, hr, hb])
end
