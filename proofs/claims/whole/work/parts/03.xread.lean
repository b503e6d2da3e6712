/-! pure pictures of the reading methods, and X's walks against them -/
def sw_len (l : Nat → Nat) (x : Nat) : Nat → Nat
  | 0 => 0
  | k + 1 => sw_len l x k + if x.testBit k = true then l k else 0
def sw_e (a b : Nat → Nat) (s : Nat) : Nat := 2 ^ a s ||| 2 ^ b s
def sw_od (a b : Nat → Nat) (x : Nat) : Nat → Nat
  | 0 => 0
  | k + 1 => if x.testBit k = true then sw_od a b x k ^^^ sw_e a b k else sw_od a b x k
def sw_co (a b : Nat → Nat) (x : Nat) : Nat → Nat
  | 0 => 0
  | k + 1 => if x.testBit k = true then sw_co a b x k ||| sw_e a b k else sw_co a b x k
def sw_sz (x : Nat) : Nat → Nat
  | 0 => 0
  | k + 1 => sw_sz x k + if x.testBit k = true then 1 else 0
def sw_st (a b : Nat → Nat) (x s r : Nat) : Nat := if x.testBit s = true ∧ r &&& sw_e a b s ≠ 0 then r ||| sw_e a b s else r
def sw_sp (a b : Nat → Nat) (x r : Nat) : Nat → Nat
  | 0 => r
  | k + 1 => sw_st a b x k (sw_sp a b x r k)
def sw_rd (a b : Nat → Nat) (x r : Nat) : Nat → Nat
  | 0 => r
  | k + 1 => sw_sp a b x (sw_rd a b x r k) 10
def sw_C (a b : Nat → Nat) : Prop := (∀ s, a s < 6) ∧ (∀ s, b s < 6)
theorem sw_e64 {a b : Nat → Nat} (h : sw_C a b) (s : Nat) : sw_e a b s < 64 := sw_or64 (sw_p64 _ (h.1 s)) (sw_p64 _ (h.2 s))
theorem sw_od64 {a b : Nat → Nat} (h : sw_C a b) (x : Nat) : ∀ k, sw_od a b x k < 64
  | 0 => (show 0 < 64 from by decide)
  | k + 1 => by
    unfold sw_od
    split
    · exact sw_xor64 (sw_od64 h x k) (sw_e64 h k)
    · exact sw_od64 h x k
theorem sw_co64 {a b : Nat → Nat} (h : sw_C a b) (x : Nat) : ∀ k, sw_co a b x k < 64
  | 0 => (show 0 < 64 from by decide)
  | k + 1 => by
    unfold sw_co
    split
    · exact sw_or64 (sw_co64 h x k) (sw_e64 h k)
    · exact sw_co64 h x k
theorem sw_st64 {a b : Nat → Nat} (h : sw_C a b) (x s : Nat) {r : Nat} (hr : r < 64) : sw_st a b x s r < 64 := by
  unfold sw_st
  split
  · exact sw_or64 hr (sw_e64 h s)
  · exact hr
theorem sw_sp64 {a b : Nat → Nat} (h : sw_C a b) (x : Nat) {r : Nat} (hr : r < 64) : ∀ k, sw_sp a b x r k < 64
  | 0 => hr
  | k + 1 => sw_st64 h x k (sw_sp64 h x hr k)
theorem sw_rd64 {a b : Nat → Nat} (h : sw_C a b) (x : Nat) {r : Nat} (hr : r < 64) : ∀ k, sw_rd a b x r k < 64
  | 0 => hr
  | k + 1 => sw_sp64 h x (sw_rd64 h x hr k) 10
theorem sw_len_le {l : Nat → Nat} (h : ∀ s, l s ≤ 20) (x : Nat) : ∀ k, sw_len l x k ≤ 20 * k
  | 0 => Nat.le_refl 0
  | k + 1 => by
    have g := sw_len_le h x k
    have g2 := h k
    unfold sw_len
    split <;> omega
theorem sw_sz_le (x : Nat) : ∀ k, sw_sz x k ≤ k
  | 0 => Nat.le_refl 0
  | k + 1 => by
    have g := sw_sz_le x k
    unfold sw_sz
    split <;> omega
section
variable {post : Int32 → Prop} {P : Int32} {a b l : Nat → Nat} {A B L D : Nat → Int32} {x : Nat}
theorem sw_xcont {u : SX} {i : Nat} (hx : x < 2 ^ 31) (hi : i < 32) (h1 : x.testBit i = true → post 1) (h0 : x.testBit i = false → post 0) : wpX_contains post u (nI x) (nI i) := by
  obtain ⟨f, a, b, l, d⟩ := u
  cases h : x.testBit i with
  | true => exact br_t (sw_b1 hx hi h) (h1 h)
  | false => exact br_f (sw_bn1 hx hi h) (h0 h)
theorem sw_xends {i : Nat} (hC : sw_C a b) (hi : i < 10) (h : post (nI (sw_e a b i))) : wpX_endsOf post (P, sw_na a, sw_na b, L, D) (nI i) := by
  have ha := hC.1 i
  have hb := hC.2 i
  unfold wpX_endsOf
  dsimp only
  rw [sw_at a (by omega), sw_at b (by omega), sw_shl _ (by omega), sw_shl _ (by omega), sw_or]
  exact ⟨vp_in_nI hi (by decide), vp_in_nI hi (by decide), h⟩
theorem sw_xodd (hC : sw_C a b) (hx : x < 1024) (h : post (nI (sw_od a b x 10))) : wpX_oddCorners post (P, sw_na a, sw_na b, L, D) (nI x) := by
  refine loop_0 (fun n i s => wX_oddCorners_4 post (nI x) P (sw_na a) (sw_na b) L D n s (nI i)) (fun i s => s = nI (sw_od a b x i)) 10 0 rfl ?_ ?_
  · intro n s hs
    subst hs
    exact br_t (by decide) h
  · intro n i s hi hs hn
    subst hs
    refine br_f (nI_ge (b := 10) hi (by decide)) ?_
    refine sw_xcont (by omega) (by omega) (fun hb => br_f (by decide) ?_) (fun hb => br_t rfl ?_)
    · refine sw_xends hC hi ?_
      intro y hy z hz
      rw [hy, hz, nI_1, nx_xor]
      exact hn _ (by simp [sw_od, hb])
    · intro z hz
      rw [hz, nI_1]
      exact hn _ (by simp [sw_od, hb])
theorem sw_xcorn (hC : sw_C a b) (hx : x < 1024) (h : post (nI (sw_co a b x 10))) : wpX_cornersOf post (P, sw_na a, sw_na b, L, D) (nI x) := by
  refine loop_0 (fun n i s => wX_cornersOf_4 post (nI x) P (sw_na a) (sw_na b) L D n s (nI i)) (fun i s => s = nI (sw_co a b x i)) 10 0 rfl ?_ ?_
  · intro n s hs
    subst hs
    exact br_t (by decide) h
  · intro n i s hi hs hn
    subst hs
    refine br_f (nI_ge (b := 10) hi (by decide)) ?_
    refine sw_xcont (by omega) (by omega) (fun hb => br_f (by decide) ?_) (fun hb => br_t rfl ?_)
    · refine sw_xends hC hi ?_
      intro y hy z hz
      rw [hy, hz, nI_1, sw_or]
      exact hn _ (by simp [sw_co, hb])
    · intro z hz
      rw [hz, nI_1]
      exact hn _ (by simp [sw_co, hb])
theorem sw_xlen (hx : x < 1024) (h : post (nI (sw_len l x 10))) : wpX_lengthOf post (P, A, B, sw_na l, D) (nI x) := by
  refine loop_0 (fun n i s => wX_lengthOf_4 post (nI x) P A B (sw_na l) D n s (nI i)) (fun i s => s = nI (sw_len l x i)) 10 0 rfl ?_ ?_
  · intro n s hs
    subst hs
    exact br_t (by decide) h
  · intro n i s hi hs hn
    subst hs
    refine br_f (nI_ge (b := 10) hi (by decide)) ?_
    refine sw_xcont (by omega) (by omega) (fun hb => br_f (by decide) ?_) (fun hb => br_t rfl ?_)
    · refine ⟨vp_in_nI hi (by decide), ?_⟩
      intro y hy z hz
      rw [hy, hz, nI_1, sw_at l (by omega), nI_add]
      exact hn _ (by simp [sw_len, hb])
    · intro z hz
      rw [hz, nI_1]
      exact hn _ (by simp [sw_len, hb])
theorem sw_xsz {u : SX} (hx : x < 1024) (h : post (nI (sw_sz x 10))) : wpX_sizeOf post u (nI x) := by
  obtain ⟨P, A, B, L, D⟩ := u
  refine loop_0 (fun n i s => wX_sizeOf_4 post (nI x) P A B L D n s (nI i)) (fun i s => s = nI (sw_sz x i)) 10 0 rfl ?_ ?_
  · intro n s hs
    subst hs
    exact br_t (by decide) h
  · intro n i s hi hs hn
    subst hs
    refine br_f (nI_ge (b := 10) hi (by decide)) ?_
    intro y hy z hz
    rw [hy, hz, nI_1, sw_bitI (by omega) (by omega), nI_add]
    exact hn _ (by simp [sw_sz])
theorem sw_xreach {r : Nat} (hC : sw_C a b) (hx : x < 1024) (hr : r < 64) (h : post (nI (sw_rd a b x r 5))) : wpX_reachedFrom post (P, sw_na a, sw_na b, L, D) (nI r) (nI x) := by
  have H : ∀ d j, j + d = 5 → wX_reachedFrom_5 post (nI x) P (sw_na a) (sw_na b) L D (d + 1) (nI (sw_rd a b x r j)) (nI (j + 1)) := by
    intro d
    induction d with
    | zero =>
      intro j hj
      obtain rfl : j = 5 := by omega
      exact br_t (by decide) h
    | succ d ih =>
      intro j hj
      refine br_f (nI_ge (b := 6) (by omega) (by decide)) ?_
      refine loop_0 (fun n i s => wX_reachedFrom_15 post (wX_reachedFrom_5 post (nI x) P (sw_na a) (sw_na b) L D (d + 1)) (nI x) (nI (j + 1)) P (sw_na a) (sw_na b) L D n s (nI i)) (fun i s => s = nI (sw_sp a b x (sw_rd a b x r j) i)) 10 _ rfl ?_ ?_
      · intro n s hs
        subst hs
        refine br_t (by decide) ?_
        intro y hy
        rw [hy, nI_1]
        exact ih (j + 1) (by omega)
      · intro n i s hi hs hn
        subst hs
        have h64 := sw_sp64 hC x (sw_rd64 hC x hr j) i
        refine br_f (nI_ge (b := 10) hi (by decide)) ?_
        refine sw_xcont (by omega) (by omega) (fun hb => br_f (by decide) ?_) (fun hb => br_t rfl ?_)
        · refine sw_xends hC hi ?_
          have hle := Nat.and_le_left (n := sw_sp a b x (sw_rd a b x r j) i) (m := sw_e a b i)
          by_cases hz : sw_sp a b x (sw_rd a b x r j) i &&& sw_e a b i = 0
          · refine br_t (by rw [nx_and, hz]; rfl) ?_
            intro z ez
            rw [ez, nI_1]
            exact hn _ (by simp [sw_sp, sw_st, hz])
          · refine br_f (by rw [nx_and, sw_e0 (by omega)]; exact hz) ?_
            refine sw_xends hC hi ?_
            intro y ey z ez
            rw [ey, ez, nI_1, sw_or]
            exact hn _ (by simp [sw_sp, sw_st, hz, hb])
        · intro z ez
          rw [ez, nI_1]
          exact hn _ (by simp [sw_sp, sw_st, hb])
  exact ⟨6, H 5 0 rfl⟩
end
