/-! connected, canWalkAll, and the small tests on both sides -/
def sw_con (a b : Nat → Nat) (p : Nat) : Prop := ∀ s, s < 10 → p.testBit s = true → sw_af a p (sw_rd a b p (2 ^ a s) 6) 10 = true
theorem sw_lt6 {x i : Nat} (hx : x < 64) (h : x.testBit i = true) : i < 6 := by
  rcases Nat.lt_or_ge i 6 with g | g
  · exact g
  · rw [Nat.testBit_lt_two_pow (Nat.lt_of_lt_of_le hx (show 2 ^ 6 ≤ 2 ^ i from Nat.pow_le_pow_right (by decide) g))] at h
    exact absurd h (by decide)
section
variable {a b l : Nat → Nat} {p : Nat}
theorem sw_con_iff {c : Nat} (hC : sw_C a b) (hc : (sw_co a b p 10).testBit c = true) : sw_rd a b p (2 ^ c) 5 = sw_co a b p 10 ↔ sw_con a b p := by
  have hc6 := sw_lt6 (sw_co64 hC p 10) hc
  constructor
  · intro h s hs hx
    exact (sw_conn_iff hC hc hc6 hs hx).mp h
  · intro h
    obtain ⟨s, hs, hx, _⟩ := (sw_co_bit 10 c).mp hc
    exact (sw_conn_iff hC hc hc6 hs hx).mpr (h s hs hx)
theorem sw_con_af {s : Nat} (hC : sw_C a b) (hs : s < 10) (hx : p.testBit s = true) : sw_af a p (sw_rd a b p (2 ^ a s) 6) 10 = true ↔ sw_con a b p := by
  have hc : (sw_co a b p 10).testBit (a s) = true := (sw_co_bit 10 _).mpr ⟨s, hs, hx, Or.inl rfl⟩
  rw [← sw_con_iff hC hc, sw_conn_iff hC hc (hC.1 s) hs hx]
end
section
variable {post : Int32 → Prop} {P : Int32} {a b l : Nat → Nat} {A B L D T F N : Nat → Int32} {p x : Nat}
theorem sw_xconn (hC : sw_C a b) (hp : p < 1024) (h1 : sw_con a b p → post 1) (h0 : ¬ sw_con a b p → post 0) : wpX_connected post (nI p, sw_na a, sw_na b, L, D) := by
  refine sw_xcorn hC hp ?_
  have hK := sw_co64 hC p 10
  intro y ey
  by_cases hz : sw_co a b p 10 = 0
  · rw [hz] at ey ⊢
    have ey : y = nI 0 := ey.trans (by decide)
    subst ey
    refine sw_xreach hC hp (by decide) ?_
    rw [sw_rd_0]
    refine br_t rfl (h1 ?_)
    intro s hs hx
    have q : (sw_co a b p 10).testBit (a s) = true := (sw_co_bit 10 _).mpr ⟨s, hs, hx, Or.inl rfl⟩
    rw [hz, Nat.zero_testBit] at q
    exact absurd q (by decide)
  · have hK2 : sw_co a b p 10 < 1024 := by omega
    have hb := sw_low_bit _ hK2 hz
    rw [sw_lowI _ hK2 hz] at ey
    subst ey
    have h6 := sw_lt6 hK hb
    have h64 := sw_p64 _ h6
    refine sw_xreach hC hp h64 ?_
    have hR := sw_rd64 hC p h64 5
    have hi := sw_con_iff hC hb
    by_cases e : sw_rd a b p (2 ^ sw_low (sw_co a b p 10)) 5 = sw_co a b p 10
    · exact br_t (by rw [e]) (h1 (hi.mp e))
    · exact br_f (sw_ne (by omega) (by omega) e) (h0 (fun q => e (hi.mpr q)))
theorem sw_yconn (hC : sw_C a b) (hp : p < 1024) (h1 : sw_con a b p → post 1) (h0 : ¬ sw_con a b p → post 0) : wpY_connected post (sw_na (sw_tb p), sw_na a, sw_na b, L, F, N) := by
  refine sw_ystreets hp ?_
  refine loop_0 (fun n i (_ : Unit) => wY_connected_7 post (nI p) (sw_na (sw_tb p)) (sw_na a) (sw_na b) L F N n (nI i)) (fun i _ => ∀ j, j < i → p.testBit j = false) 10 () (fun j hj => absurd hj (Nat.not_lt_zero j)) ?_ ?_
  · intro n _ hs
    refine br_t (by decide) (h1 ?_)
    intro s hs' hx
    rw [hs s hs'] at hx
    exact absurd hx (by decide)
  · intro n i _ hi hs hn
    refine br_f (nI_ge (b := 10) hi (by decide)) ⟨vp_in_nI hi (by decide), ?_⟩
    rw [sw_at _ (by omega)]
    cases hb : p.testBit i with
    | false =>
      refine br_t (by simp [sw_tb, hb]; rfl) ?_
      intro z ez
      rw [ez, nI_1]
      refine hn () ?_
      intro j hj
      rcases Nat.lt_or_ge j i with q | q
      · exact hs j q
      · obtain rfl : j = i := by omega
        exact hb
    | true =>
      refine br_f (by simp [sw_tb, hb]; decide) ⟨vp_in_nI hi (by decide), ?_⟩
      rw [sw_at a (by omega)]
      refine sw_yallFrom hC hp (hC.1 i) ?_
      have hi2 := sw_con_af hC hi hb
      refine ⟨sw_nar _, ?_⟩
      by_cases e : sw_con a b p
      · rw [if_pos (hi2.mpr e)]; exact h1 e
      · rw [if_neg (fun q => e (hi2.mp q))]; exact h0 e
theorem sw_xwalk {c : Nat} (hC : sw_C a b) (hx : x < 1024) (hc : c < 6) (h : post (if sw_af a x (sw_rd a b x (2 ^ c) 6) 10 = true then 1 else 0)) : wpX_canWalkAll post (P, sw_na a, sw_na b, L, D) (nI c) (nI x) := by
  refine sw_xcorn hC hx ?_
  rw [sw_shl c (by omega)]
  have h64 := sw_p64 c hc
  refine sw_xreach hC hx h64 ?_
  have hK := sw_co64 hC x 10
  have hR := sw_rd64 hC x h64 5
  have hi := sw_walk_iff (x := x) hC hc
  have hK2 : sw_co a b x 10 < 1024 := by omega
  have hand : nI (sw_co a b x 10) &&& (nI (sw_rd a b x (2 ^ c) 5) ^^^ (-1)) = 0 ↔ sw_sub (sw_co a b x 10) (sw_rd a b x (2 ^ c) 5) := by
    rw [sw_andn hK2 (by omega), sw_e0 (Nat.lt_trans (sw_and_lt hK2) (by decide)), sw_subN hK2]
  by_cases e : sw_sub (sw_co a b x 10) (sw_rd a b x (2 ^ c) 5)
  · rw [if_pos (hi.mp e)] at h
    exact br_t (hand.mpr e) h
  · rw [if_neg (fun q => e (hi.mpr q))] at h
    exact br_f (fun q => e (hand.mp q)) h
def sw_isC (y : Int32) : Prop := ∃ j, j < 6 ∧ y = nI j
def sw_isL (y : Int32) : Prop := ∃ j, j ≤ 20 ∧ y = nI j
def sw_isS (p : Nat) (y : Int32) : Prop := ∃ j, j < 10 ∧ y = nI j ∧ p.testBit j = true
theorem sw_rng {A1 A2 A3 : Prop} {y : Int32} (n : Nat) (hn : n < 2 ^ 31) (h1 : (∃ j, j < n ∧ y = nI j) → A3) (h0 : (¬ ∃ j, j < n ∧ y = nI j) → A1 ∧ A2) : (y < 0 → A1) ∧ (¬ y < 0 → ((nI n ≤ y → A2) ∧ (¬ nI n ≤ y → A3))) := by
  rcases pk_ix y hn with q | q | ⟨j, hj, rfl⟩
  · refine br_t q (h0 ?_).1
    rintro ⟨j, hj, rfl⟩
    exact absurd q (nI_pos (by omega))
  · refine br_c (fun z => (h0 ?_).1) (fun z => br_t q (h0 ?_).2)
    · rintro ⟨j, hj, rfl⟩
      exact absurd q (nI_ge hj hn)
    · rintro ⟨j, hj, rfl⟩
      exact absurd q (nI_ge hj hn)
  · exact br_f (nI_pos (by omega)) (br_f (nI_ge hj hn) (h1 ⟨j, hj, rfl⟩))
theorem sw_xisC {u : SX} {y : Int32} (h1 : sw_isC y → post 1) (h0 : ¬ sw_isC y → post 0) : wpX_isCorner post u y := by
  obtain ⟨P, A, B, L, D⟩ := u
  exact sw_rng 6 (by decide) h1 (fun q => ⟨h0 q, h0 q⟩)
theorem sw_yisC {v : SY} {y : Int32} (h1 : sw_isC y → post 1) (h0 : ¬ sw_isC y → post 0) : wpY_corner post v y := by
  obtain ⟨T, A, B, L, F, N⟩ := v
  exact sw_rng 6 (by decide) h1 (fun q => ⟨h0 q, h0 q⟩)
theorem sw_lenrng {A1 A2 A3 : Prop} {y : Int32} (h1 : sw_isL y → A3) (h0 : ¬ sw_isL y → A1 ∧ A2) : (y < 0 → A1) ∧ (¬ y < 0 → ((20 < y → A2) ∧ (¬ 20 < y → A3))) := by
  rcases pk_ix y (n := 21) (by decide) with q | q | ⟨j, hj, rfl⟩
  · refine br_t q (h0 ?_).1
    rintro ⟨j, hj, rfl⟩
    exact absurd q (nI_pos (by omega))
  · have hno : ¬ sw_isL y := by
      rintro ⟨j, hj, rfl⟩
      exact absurd q (nI_ge (by omega) (by decide))
    refine br_c (fun z => (h0 hno).1) (fun z => br_t ?_ (h0 hno).2)
    exact Int32.lt_of_lt_of_le (by decide : (20 : Int32) < nI 21) q
  · exact br_f (nI_pos (by omega)) (br_f (nI_nlt (b := j) (a := 20) (by omega) (by decide)) (h1 ⟨j, by omega, rfl⟩))
theorem sw_lenrng2 {A1 A2 A3 : Prop} {y : Int32} (h1 : sw_isL y → A3) (h0 : ¬ sw_isL y → A1 ∧ A2) : (y < 0 → A1) ∧ (¬ y < 0 → ((y ≤ 20 → A3) ∧ (¬ y ≤ 20 → A2))) := by
  rcases pk_ix y (n := 21) (by decide) with q | q | ⟨j, hj, rfl⟩
  · refine br_t q (h0 ?_).1
    rintro ⟨j, hj, rfl⟩
    exact absurd q (nI_pos (by omega))
  · have hno : ¬ sw_isL y := by
      rintro ⟨j, hj, rfl⟩
      exact absurd q (nI_ge (by omega) (by decide))
    refine br_c (fun z => (h0 hno).1) (fun z => br_f ?_ (h0 hno).2)
    exact Int32.not_le.mpr (Int32.lt_of_lt_of_le (by decide : (20 : Int32) < nI 21) q)
  · exact br_f (nI_pos (by omega)) (br_t (nI_le (b := 20) (by omega) (by decide)) (h1 ⟨j, by omega, rfl⟩))
theorem sw_xisL {u : SX} {y : Int32} (h1 : sw_isL y → post 1) (h0 : ¬ sw_isL y → post 0) : wpX_isLength post u y := by
  obtain ⟨P, A, B, L, D⟩ := u
  exact sw_lenrng h1 (fun q => ⟨h0 q, h0 q⟩)
theorem sw_xisS {y : Int32} (hp : p < 1024) (h1 : sw_isS p y → post 1) (h0 : ¬ sw_isS p y → post 0) : wpX_isStreet post (nI p, A, B, L, D) y := by
  refine sw_rng 10 (by decide) ?_ ?_
  · rintro ⟨j, hj, rfl⟩
    refine sw_xcont (by omega) (by omega) (fun hb => br_f (by decide) (h1 ⟨j, hj, rfl, hb⟩)) (fun hb => br_t rfl (h0 ?_))
    rintro ⟨i, hi, e, hb'⟩
    rw [nI_eq (by omega) (by omega)] at e
    subst e
    rw [hb] at hb'
    exact absurd hb' (by decide)
  · intro q
    have hno : ¬ sw_isS p y := fun ⟨j, hj, e, _⟩ => q ⟨j, hj, e⟩
    exact ⟨h0 hno, h0 hno⟩
theorem sw_yisS {y : Int32} (h1 : sw_isS p y → post 1) (h0 : ¬ sw_isS p y → post 0) : wpY_street post (sw_na (sw_tb p), A, B, L, F, N) y := by
  refine sw_rng 10 (by decide) ?_ ?_
  · rintro ⟨j, hj, rfl⟩
    refine ⟨vp_in_nI hj (by decide), ?_⟩
    rw [sw_at _ (by omega)]
    cases hb : p.testBit j with
    | true => exact br_f (by simp [sw_tb, hb]; decide) (h1 ⟨j, hj, rfl, hb⟩)
    | false =>
      refine br_t (by simp [sw_tb, hb]; rfl) (h0 ?_)
      rintro ⟨i, hi, e, hb'⟩
      rw [nI_eq (by omega) (by omega)] at e
      subst e
      rw [hb] at hb'
      exact absurd hb' (by decide)
  · intro q
    have hno : ¬ sw_isS p y := fun ⟨j, hj, e, _⟩ => q ⟨j, hj, e⟩
    exact ⟨h0 hno, h0 hno⟩
end
