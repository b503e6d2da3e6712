/-! ways: the sweep over the streets, and that it stands still after five rounds -/
def sw_mn (x y : Nat) : Nat := if x ≤ y then x else y
theorem sw_mn_l (x y : Nat) : sw_mn x y ≤ x := by unfold sw_mn; split <;> omega
theorem sw_mn_r (x y : Nat) : sw_mn x y ≤ y := by unfold sw_mn; split <;> omega
theorem sw_mn_ge {z x y : Nat} (h1 : z ≤ x) (h2 : z ≤ y) : z ≤ sw_mn x y := by unfold sw_mn; split <;> omega
def sw_rx (a b l : Nat → Nat) (p s : Nat) (n : Nat → Nat) : Nat → Nat :=
  if p.testBit s = true then sw_up (sw_up n (b s) (sw_mn (n (b s)) (n (a s) + l s))) (a s) (sw_mn (n (a s)) (n (b s) + l s)) else n
def sw_sv (a b l : Nat → Nat) (p : Nat) (n : Nat → Nat) : Nat → Nat → Nat
  | 0 => n
  | k + 1 => sw_rx a b l p k (sw_sv a b l p n k)
def sw_nr (a b l : Nat → Nat) (p : Nat) (n : Nat → Nat) : Nat → Nat → Nat
  | 0 => n
  | k + 1 => sw_sv a b l p (sw_nr a b l p n k) 10
def sw_sum (f : Nat → Nat) : Nat → Nat
  | 0 => 0
  | k + 1 => sw_sum f k + f k
theorem sw_sum_le {f g : Nat → Nat} (h : ∀ c, f c ≤ g c) : ∀ k, sw_sum f k ≤ sw_sum g k
  | 0 => Nat.le_refl 0
  | k + 1 => by
    have q := sw_sum_le h k
    have w := h k
    unfold sw_sum
    omega
theorem sw_sum_lt {f g : Nat → Nat} (h : ∀ c, f c ≤ g c) {i : Nat} (hi : f i < g i) : ∀ k, i < k → sw_sum f k < sw_sum g k
  | 0, z => absurd z (Nat.not_lt_zero i)
  | k + 1, z => by
    have w := h k
    unfold sw_sum
    rcases Nat.lt_or_ge i k with q | q
    · have := sw_sum_lt h hi k q
      omega
    · obtain rfl : i = k := by omega
      have := sw_sum_le h i
      omega
theorem sw_sum1 : ∀ k, sw_sum (fun _ => 1) k = k
  | 0 => rfl
  | k + 1 => by rw [sw_sum, sw_sum1 k]
/-- e is no longer at one end of a street than at the other end and along it -/
def sw_fe (a b l : Nat → Nat) (p : Nat) (e : Nat → Nat) : Prop := ∀ s, s < 10 → p.testBit s = true → e (b s) ≤ e (a s) + l s ∧ e (a s) ≤ e (b s) + l s
section
variable {a b l n e : Nat → Nat} {p : Nat}
theorem sw_rx_le (s c : Nat) : sw_rx a b l p s n c ≤ n c := by
  unfold sw_rx
  split
  · unfold sw_up
    split
    · rename_i q; rw [q]; exact sw_mn_l _ _
    · split
      · rename_i q; rw [q]; exact sw_mn_l _ _
      · exact Nat.le_refl _
  · exact Nat.le_refl _
theorem sw_rx_ge {s : Nat} (hs : s < 10) (hf : sw_fe a b l p e) (h : ∀ c, e c ≤ n c) (c : Nat) : e c ≤ sw_rx a b l p s n c := by
  unfold sw_rx
  split
  · rename_i hp
    have q := hf s hs hp
    have ha := h (a s)
    have hb := h (b s)
    unfold sw_up
    split
    · rename_i z; rw [z]; exact sw_mn_ge ha (by omega)
    · split
      · rename_i z; rw [z]; exact sw_mn_ge hb (by omega)
      · exact h c
  · exact h c
theorem sw_rx_hi (hC : sw_C a b) (s : Nat) {c : Nat} (hc : 6 ≤ c) : sw_rx a b l p s n c = n c := by
  have ha := hC.1 s
  have hb := hC.2 s
  unfold sw_rx
  split
  · unfold sw_up
    rw [if_neg (by omega), if_neg (by omega)]
  · rfl
theorem sw_sv_le (c : Nat) : ∀ k, sw_sv a b l p n k c ≤ n c
  | 0 => Nat.le_refl _
  | k + 1 => Nat.le_trans (sw_rx_le k c) (sw_sv_le c k)
theorem sw_sv_mono (k c : Nat) : ∀ d, sw_sv a b l p n (k + d) c ≤ sw_sv a b l p n k c
  | 0 => Nat.le_refl _
  | d + 1 => Nat.le_trans (sw_rx_le (k + d) c) (sw_sv_mono k c d)
theorem sw_sv_ge (hf : sw_fe a b l p e) (h : ∀ c, e c ≤ n c) : ∀ k, k ≤ 10 → ∀ c, e c ≤ sw_sv a b l p n k c
  | 0, _ => h
  | k + 1, hk => sw_rx_ge (by omega) hf (sw_sv_ge hf h k (by omega))
theorem sw_sv_hi (hC : sw_C a b) {c : Nat} (hc : 6 ≤ c) : ∀ k, sw_sv a b l p n k c = n c
  | 0 => rfl
  | k + 1 => by rw [sw_sv, sw_rx_hi hC k hc, sw_sv_hi hC hc k]
theorem sw_sv_st (hne : ∀ s, p.testBit s = true → a s ≠ b s) {s : Nat} (hs : s < 10) (hp : p.testBit s = true) : sw_sv a b l p n 10 (b s) ≤ n (a s) + l s ∧ sw_sv a b l p n 10 (a s) ≤ n (b s) + l s := by
  have m1 := sw_sv_mono (a := a) (b := b) (l := l) (p := p) (n := n) (s + 1) (b s) (9 - s)
  have m2 := sw_sv_mono (a := a) (b := b) (l := l) (p := p) (n := n) (s + 1) (a s) (9 - s)
  rw [show s + 1 + (9 - s) = 10 by omega] at m1 m2
  have l1 := sw_sv_le (a := a) (b := b) (l := l) (p := p) (n := n) (a s) s
  have l2 := sw_sv_le (a := a) (b := b) (l := l) (p := p) (n := n) (b s) s
  have hab := hne s hp
  have e1 : sw_sv a b l p n (s + 1) (b s) ≤ sw_sv a b l p n s (a s) + l s := by
    rw [sw_sv]
    unfold sw_rx
    rw [if_pos hp]
    unfold sw_up
    rw [if_neg (fun z => hab z.symm), if_pos rfl]
    exact sw_mn_r _ _
  have e2 : sw_sv a b l p n (s + 1) (a s) ≤ sw_sv a b l p n s (b s) + l s := by
    rw [sw_sv]
    unfold sw_rx
    rw [if_pos hp]
    unfold sw_up
    rw [if_pos rfl]
    exact sw_mn_r _ _
  omega
theorem sw_nr_le (c : Nat) : ∀ k, sw_nr a b l p n k c ≤ n c
  | 0 => Nat.le_refl _
  | k + 1 => Nat.le_trans (sw_sv_le c 10) (sw_nr_le c k)
theorem sw_nr_ge (hf : sw_fe a b l p e) (h : ∀ c, e c ≤ n c) : ∀ k c, e c ≤ sw_nr a b l p n k c
  | 0 => h
  | k + 1 => sw_sv_ge hf (sw_nr_ge hf h k) 10 (by omega)
theorem sw_nr_hi (hC : sw_C a b) {c : Nat} (hc : 6 ≤ c) : ∀ k, sw_nr a b l p n k c = n c
  | 0 => rfl
  | k + 1 => by rw [sw_nr, sw_sv_hi hC hc 10, sw_nr_hi hC hc k]
theorem sw_nr_stop (hC : sw_C a b) : ∀ k, (∃ j, sw_nr a b l p n (j + 1) = sw_nr a b l p n j) ∨ sw_sum (sw_nr a b l p n k) 6 + k ≤ sw_sum n 6
  | 0 => Or.inr (Nat.le_refl _)
  | k + 1 => by
    rcases sw_nr_stop hC k with h | h
    · exact Or.inl h
    · by_cases q : ∃ c, sw_nr a b l p n (k + 1) c ≠ sw_nr a b l p n k c
      · right
        obtain ⟨c, hc⟩ := q
        have le : ∀ c, sw_nr a b l p n (k + 1) c ≤ sw_nr a b l p n k c := fun c => sw_sv_le c 10
        have hc6 : c < 6 := by
          rcases Nat.lt_or_ge c 6 with w | w
          · exact w
          · exact absurd (by rw [sw_nr_hi hC w, sw_nr_hi hC w]) hc
        have := sw_sum_lt le (Nat.lt_of_le_of_ne (le c) hc) 6 hc6
        omega
      · left
        refine ⟨k, funext fun c => ?_⟩
        exact Classical.byContradiction (fun z => q ⟨c, z⟩)
theorem sw_nr_ex (hC : sw_C a b) : ∃ j, sw_nr a b l p n (j + 1) = sw_nr a b l p n j := by
  rcases sw_nr_stop (a := a) (b := b) (l := l) (p := p) (n := n) hC (sw_sum n 6 + 1) with h | h
  · exact h
  · omega
theorem sw_nr_fe (hne : ∀ s, p.testBit s = true → a s ≠ b s) {j : Nat} (h : sw_nr a b l p n (j + 1) = sw_nr a b l p n j) : sw_fe a b l p (sw_nr a b l p n j) := by
  intro s hs hp
  have q := sw_sv_st (l := l) (n := sw_nr a b l p n j) hne hs hp
  rw [sw_nr] at h
  rw [h] at q
  exact q
/-- one round more settles one corner more -/
theorem sw_nr_one (hne : ∀ s, p.testBit s = true → a s ≠ b s) {j : Nat} (h : sw_nr a b l p n (j + 1) = sw_nr a b l p n j) (k : Nat) : (∀ c, sw_nr a b l p n k c = sw_nr a b l p n j c) ∨ ∃ c, sw_nr a b l p n k c ≠ sw_nr a b l p n j c ∧ sw_nr a b l p n (k + 1) c = sw_nr a b l p n j c := by
  by_cases q : ∃ c, sw_nr a b l p n k c ≠ sw_nr a b l p n j c ∧ sw_nr a b l p n (k + 1) c = sw_nr a b l p n j c
  · exact Or.inr q
  · left
    have hfe := sw_nr_fe hne h
    have low : ∀ i c, sw_nr a b l p n j c ≤ sw_nr a b l p n i c := sw_nr_ge hfe (fun c => sw_nr_le c j)
    have hst : ∀ s, s < 10 → p.testBit s = true → sw_nr a b l p n (k + 1) (b s) ≤ sw_nr a b l p n k (a s) + l s ∧ sw_nr a b l p n (k + 1) (a s) ≤ sw_nr a b l p n k (b s) + l s := fun s hs hp => sw_sv_st hne hs hp
    have key : ∀ u w t, sw_nr a b l p n j w ≤ sw_nr a b l p n j u + t → sw_nr a b l p n (k + 1) w ≤ sw_nr a b l p n k u + t → (if sw_nr a b l p n k w = sw_nr a b l p n j w then sw_nr a b l p n j w else sw_nr a b l p n j w + 1) ≤ (if sw_nr a b l p n k u = sw_nr a b l p n j u then sw_nr a b l p n j u else sw_nr a b l p n j u + 1) + t := by
      intro u w t h1 h2
      by_cases c1 : sw_nr a b l p n k w = sw_nr a b l p n j w
      · rw [if_pos c1]
        split <;> omega
      · rw [if_neg c1]
        have c3 : sw_nr a b l p n (k + 1) w ≠ sw_nr a b l p n j w := fun z => q ⟨w, c1, z⟩
        have c4 := low (k + 1) w
        split <;> omega
    have hfe2 : sw_fe a b l p (fun c => if sw_nr a b l p n k c = sw_nr a b l p n j c then sw_nr a b l p n j c else sw_nr a b l p n j c + 1) := by
      intro s hs hp
      have q1 := hfe s hs hp
      have q2 := hst s hs hp
      exact ⟨key (a s) (b s) (l s) q1.1 q2.1, key (b s) (a s) (l s) q1.2 q2.2⟩
    have hle : ∀ c, (fun c => if sw_nr a b l p n k c = sw_nr a b l p n j c then sw_nr a b l p n j c else sw_nr a b l p n j c + 1) c ≤ n c := by
      intro c
      have w1 := sw_nr_le (a := a) (b := b) (l := l) (p := p) (n := n) c k
      have w2 := low k c
      show (if sw_nr a b l p n k c = sw_nr a b l p n j c then sw_nr a b l p n j c else sw_nr a b l p n j c + 1) ≤ n c
      split <;> omega
    intro c
    have w := sw_nr_ge hfe2 hle j c
    have w : (if sw_nr a b l p n k c = sw_nr a b l p n j c then sw_nr a b l p n j c else sw_nr a b l p n j c + 1) ≤ sw_nr a b l p n j c := w
    by_cases z : sw_nr a b l p n k c = sw_nr a b l p n j c
    · exact z
    · rw [if_neg z] at w
      omega
def sw_n0 (st : Nat) : Nat → Nat := fun c => if c = st then 0 else 100000
theorem sw_nr_cnt (hC : sw_C a b) (hne : ∀ s, p.testBit s = true → a s ≠ b s) {st : Nat} (hst : st < 6) {j : Nat} (h : sw_nr a b l p (sw_n0 st) (j + 1) = sw_nr a b l p (sw_n0 st) j) : ∀ k, (∀ c, sw_nr a b l p (sw_n0 st) k c = sw_nr a b l p (sw_n0 st) j c) ∨ k + 1 ≤ sw_sum (fun c => if sw_nr a b l p (sw_n0 st) k c = sw_nr a b l p (sw_n0 st) j c then 1 else 0) 6
  | 0 => by
    right
    have e : sw_nr a b l p (sw_n0 st) 0 st = sw_nr a b l p (sw_n0 st) j st := by
      have q := sw_nr_le (a := a) (b := b) (l := l) (p := p) (n := sw_n0 st) st j
      have z : sw_n0 st st = 0 := if_pos rfl
      rw [sw_nr]
      omega
    have := sw_sum_lt (f := fun _ => 0) (g := fun c => if sw_nr a b l p (sw_n0 st) 0 c = sw_nr a b l p (sw_n0 st) j c then 1 else 0) (fun c => Nat.zero_le _) (i := st) (by show 0 < _; rw [if_pos e]; decide) 6 hst
    omega
  | k + 1 => by
    have low : ∀ i c, sw_nr a b l p (sw_n0 st) j c ≤ sw_nr a b l p (sw_n0 st) i c := sw_nr_ge (sw_nr_fe hne h) (fun c => sw_nr_le c j)
    have step : ∀ c, sw_nr a b l p (sw_n0 st) (k + 1) c ≤ sw_nr a b l p (sw_n0 st) k c := fun c => sw_sv_le c 10
    rcases sw_nr_cnt hC hne hst h k with q | q
    · left
      intro c
      have := low (k + 1) c
      have := step c
      have := q c
      omega
    · rcases sw_nr_one hne h k with w | ⟨c, w1, w2⟩
      · left
        intro c
        have := low (k + 1) c
        have := step c
        have := w c
        omega
      · right
        have hc6 : c < 6 := by
          rcases Nat.lt_or_ge c 6 with z | z
          · exact z
          · exact absurd (by rw [sw_nr_hi hC z, sw_nr_hi hC z]) w1
        have := sw_sum_lt (f := fun c => if sw_nr a b l p (sw_n0 st) k c = sw_nr a b l p (sw_n0 st) j c then 1 else 0) (g := fun c => if sw_nr a b l p (sw_n0 st) (k + 1) c = sw_nr a b l p (sw_n0 st) j c then 1 else 0) (by
          intro c
          show (if _ then 1 else 0) ≤ (if _ then 1 else 0)
          have := low (k + 1) c
          have := step c
          split <;> split <;> omega) (i := c) (by
          show (if _ then 1 else 0) < (if _ then 1 else 0)
          rw [if_neg w1, if_pos w2]; decide) 6 hc6
        omega
theorem sw_nr_6 (hC : sw_C a b) (hne : ∀ s, p.testBit s = true → a s ≠ b s) {st : Nat} (hst : st < 6) : ∀ c, sw_nr a b l p (sw_n0 st) 6 c = sw_nr a b l p (sw_n0 st) 5 c := by
  obtain ⟨j, h⟩ := sw_nr_ex (a := a) (b := b) (l := l) (p := p) (n := sw_n0 st) hC
  have all : ∀ c, sw_nr a b l p (sw_n0 st) 5 c = sw_nr a b l p (sw_n0 st) j c := by
    rcases sw_nr_cnt hC hne hst h 5 with q | q
    · exact q
    · intro c
      rcases Nat.lt_or_ge c 6 with z | z
      · apply Classical.byContradiction
        intro w
        have := sw_sum_lt (f := fun c => if sw_nr a b l p (sw_n0 st) 5 c = sw_nr a b l p (sw_n0 st) j c then 1 else 0) (g := fun _ => 1) (by
          intro c
          show (if _ then 1 else 0) ≤ 1
          split <;> omega) (i := c) (by
          show (if _ then 1 else 0) < 1
          rw [if_neg w]; decide) 6 z
        rw [sw_sum1] at this
        omega
      · rw [sw_nr_hi hC z, sw_nr_hi hC z]
  intro c
  have w1 : sw_nr a b l p (sw_n0 st) 6 c ≤ sw_nr a b l p (sw_n0 st) 5 c := sw_sv_le c 10
  have w2 := sw_nr_ge (sw_nr_fe hne h) (fun c => sw_nr_le c j) 6 c
  have w3 := all c
  omega
/-- every value is 100000 (no way) or small -/
def sw_B (m : Nat) (n : Nat → Nat) : Prop := ∀ c, n c ≤ 100000 ∧ (n c < 100000 → n c ≤ m)
theorem sw_rx_B {m : Nat} (hl : ∀ s, l s ≤ 20) (h : sw_B m n) (s : Nat) : sw_B (m + 20) (sw_rx a b l p s n) := by
  intro c
  have hc := h c
  have ha := h (a s)
  have hb := h (b s)
  have hs := hl s
  unfold sw_rx
  split
  · unfold sw_up sw_mn
    split
    · split <;> omega
    · split
      · split <;> omega
      · omega
  · omega
theorem sw_sv_B {m : Nat} (hl : ∀ s, l s ≤ 20) (h : sw_B m n) : ∀ k, sw_B (m + 20 * k) (sw_sv a b l p n k)
  | 0 => h
  | k + 1 => by
    have q := sw_rx_B (a := a) (b := b) (p := p) hl (sw_sv_B hl h k) k
    rw [show m + 20 * k + 20 = m + 20 * (k + 1) by omega] at q
    exact q
theorem sw_n0_B (st : Nat) : sw_B 0 (sw_n0 st) := by
  intro c
  unfold sw_n0
  split <;> omega
theorem sw_nr_B (hl : ∀ s, l s ≤ 20) (st : Nat) : ∀ k, sw_B (200 * k) (sw_nr a b l p (sw_n0 st) k)
  | 0 => sw_n0_B st
  | k + 1 => by
    have q := sw_sv_B (a := a) (b := b) (p := p) hl (sw_nr_B hl st k) 10
    rw [show 200 * k + 20 * 10 = 200 * (k + 1) by omega] at q
    exact q
end
