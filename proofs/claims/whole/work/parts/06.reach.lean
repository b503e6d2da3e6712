/-! reachability: X's five rounds and Y's six give the same least closed set -/
def sw_cl (a b : Nat → Nat) (x : Nat) (C : Nat → Bool) : Prop := ∀ s, s < 10 → x.testBit s = true → C (a s) = C (b s)
theorem sw_e_bit (a b : Nat → Nat) (s i : Nat) : (sw_e a b s).testBit i = (decide (a s = i) || decide (b s = i)) := by
  unfold sw_e
  rw [Nat.testBit_or, sw_pbit, sw_pbit]
theorem sw_e_a (a b : Nat → Nat) (s : Nat) : (sw_e a b s).testBit (a s) = true := by rw [sw_e_bit]; simp
theorem sw_e_b (a b : Nat → Nat) (s : Nat) : (sw_e a b s).testBit (b s) = true := by rw [sw_e_bit]; simp
theorem sw_meet {r e i : Nat} (h1 : r.testBit i = true) (h2 : e.testBit i = true) : r &&& e ≠ 0 := by
  intro h
  have q := congrArg (fun y => Nat.testBit y i) h
  simp only [Nat.testBit_and, Nat.zero_testBit, h1, h2] at q
  exact absurd q (by decide)
theorem sw_meet' {r e : Nat} (h : r &&& e ≠ 0) : ∃ i, r.testBit i = true ∧ e.testBit i = true := by
  obtain ⟨i, hi⟩ := Nat.exists_testBit_of_ne_zero h
  rw [Nat.testBit_and, Bool.and_eq_true] at hi
  exact ⟨i, hi⟩
section
variable {a b : Nat → Nat} {x r : Nat} {C : Nat → Bool}
theorem sw_st_ge (s : Nat) : sw_sub r (sw_st a b x s r) := by
  intro i hi
  unfold sw_st
  split
  · rw [Nat.testBit_or, hi]; rfl
  · exact hi
theorem sw_sp_ge : ∀ k, sw_sub r (sw_sp a b x r k)
  | 0 => fun i hi => hi
  | k + 1 => fun i hi => sw_st_ge k i (sw_sp_ge k i hi)
theorem sw_sp_mono (k : Nat) : ∀ d, sw_sub (sw_sp a b x r k) (sw_sp a b x r (k + d))
  | 0 => fun i hi => hi
  | d + 1 => fun i hi => sw_st_ge (k + d) i (sw_sp_mono k d i hi)
theorem sw_rd_ge : ∀ k, sw_sub r (sw_rd a b x r k)
  | 0 => fun i hi => hi
  | k + 1 => fun i hi => sw_sp_ge 10 i (sw_rd_ge k i hi)
theorem sw_st_in (hC : sw_cl a b x C) {s : Nat} (hs : s < 10) (h : ∀ i, r.testBit i = true → C i = true) : ∀ i, (sw_st a b x s r).testBit i = true → C i = true := by
  intro i
  unfold sw_st
  split
  · rename_i q
    intro hi
    obtain ⟨j, hj, hje⟩ := sw_meet' q.2
    have hCj := h j hj
    have hcl := hC s hs q.1
    rw [sw_e_bit, Bool.or_eq_true, decide_eq_true_eq, decide_eq_true_eq] at hje
    rw [Nat.testBit_or, Bool.or_eq_true, sw_e_bit, Bool.or_eq_true, decide_eq_true_eq, decide_eq_true_eq] at hi
    rcases hi with hi | hi | hi
    · exact h i hi
    · subst hi
      rcases hje with e | e
      · rw [e]; exact hCj
      · rw [hcl, e]; exact hCj
    · subst hi
      rcases hje with e | e
      · rw [← hcl, e]; exact hCj
      · rw [e]; exact hCj
  · exact h i
theorem sw_sp_in (hC : sw_cl a b x C) (h : ∀ i, r.testBit i = true → C i = true) : ∀ k, k ≤ 10 → ∀ i, (sw_sp a b x r k).testBit i = true → C i = true
  | 0, _ => h
  | k + 1, hk => sw_st_in hC (by omega) (sw_sp_in hC h k (by omega))
theorem sw_rd_in (hC : sw_cl a b x C) (h : ∀ i, r.testBit i = true → C i = true) : ∀ k, ∀ i, (sw_rd a b x r k).testBit i = true → C i = true
  | 0 => h
  | k + 1 => sw_sp_in hC (sw_rd_in hC h k) 10 (by omega)
theorem sw_sub_anti {y z : Nat} (h1 : sw_sub y z) (h2 : sw_sub z y) : y = z := by
  apply Nat.eq_of_testBit_eq
  intro i
  cases q : y.testBit i with
  | true => rw [h1 i q]
  | false =>
    cases w : z.testBit i with
    | true => rw [h2 i w] at q; exact absurd q (by decide)
    | false => rfl
theorem sw_fix_cl (h : sw_sp a b x r 10 = r) : sw_cl a b x (fun i => r.testBit i) := by
  have hk : ∀ k, k ≤ 10 → sw_sp a b x r k = r := by
    intro k hk
    apply sw_sub_anti
    · intro i hi
      have q := sw_sp_mono (a := a) (b := b) (x := x) (r := r) k (10 - k) i hi
      rw [show k + (10 - k) = 10 by omega, h] at q
      exact q
    · exact sw_sp_ge k
  intro s hs hx
  have h1 := hk s (by omega)
  have h2 := hk (s + 1) (by omega)
  rw [sw_sp, h1] at h2
  have key : r &&& sw_e a b s ≠ 0 → ∀ i, (sw_e a b s).testBit i = true → r.testBit i = true := by
    intro q i hi
    unfold sw_st at h2
    rw [if_pos ⟨hx, q⟩] at h2
    rw [← h2, Nat.testBit_or, hi, Bool.or_true]
  show r.testBit (a s) = r.testBit (b s)
  cases q : r.testBit (a s) with
  | true => rw [key (sw_meet q (sw_e_a a b s)) _ (sw_e_b a b s)]
  | false =>
    cases w : r.testBit (b s) with
    | true => rw [key (sw_meet w (sw_e_b a b s)) _ (sw_e_a a b s)] at q; exact absurd q (by decide)
    | false => rfl
end
theorem sw_grow : ∀ r, r < 64 → ∀ q, q < 64 → r &&& q = r → r ≠ q → sw_sz r 6 < sw_sz q 6 := by decide +kernel
theorem sw_full : ∀ r, r < 64 → 6 ≤ sw_sz r 6 → r = 63 := by decide +kernel
theorem sw_none : ∀ r, r < 64 → sw_sz r 6 = 0 → r = 0 := by decide +kernel
theorem sw_or63 : ∀ e, e < 64 → 63 ||| e = 63 := by decide +kernel
theorem sw_sub_and {y z : Nat} (h : sw_sub y z) : y &&& z = y := by
  apply Nat.eq_of_testBit_eq
  intro i
  rw [Nat.testBit_and]
  cases q : y.testBit i with
  | true => rw [h i q]; rfl
  | false => rfl
section
variable {a b : Nat → Nat} {x r : Nat}
theorem sw_sp_63 (hC : sw_C a b) : ∀ k, sw_sp a b x 63 k = 63
  | 0 => rfl
  | k + 1 => by
    rw [sw_sp, sw_sp_63 hC k]
    unfold sw_st
    split
    · exact sw_or63 _ (sw_e64 hC k)
    · rfl
theorem sw_sp_0 : ∀ k, sw_sp a b x 0 k = 0
  | 0 => rfl
  | k + 1 => by
    rw [sw_sp, sw_sp_0 k]
    unfold sw_st
    simp
theorem sw_rd_0 : ∀ k, sw_rd a b x 0 k = 0
  | 0 => rfl
  | k + 1 => by rw [sw_rd, sw_rd_0 k, sw_sp_0]
theorem sw_rd_cnt (hC : sw_C a b) (hr : r < 64) : ∀ k, sw_sp a b x (sw_rd a b x r k) 10 = sw_rd a b x r k ∨ k + sw_sz r 6 ≤ sw_sz (sw_rd a b x r k) 6
  | 0 => Or.inr (by rw [Nat.zero_add]; exact Nat.le_refl _)
  | k + 1 => by
    rcases sw_rd_cnt hC hr k with h | h
    · left
      rw [sw_rd, h, h]
    · by_cases e : sw_sp a b x (sw_rd a b x r k) 10 = sw_rd a b x r k
      · left
        rw [sw_rd, e, e]
      · right
        have q := sw_grow _ (sw_rd64 hC x hr k) _ (sw_sp64 hC x (sw_rd64 hC x hr k) 10) (sw_sub_and (sw_sp_ge 10)) (fun z => e z.symm)
        rw [sw_rd]
        omega
theorem sw_rd_fix (hC : sw_C a b) (hr : r < 64) : sw_sp a b x (sw_rd a b x r 5) 10 = sw_rd a b x r 5 := by
  rcases sw_rd_cnt (x := x) hC hr 5 with h | h
  · exact h
  · by_cases z : sw_sz r 6 = 0
    · rw [sw_none r hr z, sw_rd_0, sw_sp_0]
    · rw [sw_full _ (sw_rd64 hC x hr 5) (by omega), sw_sp_63 hC]
theorem sw_rd_6 (hC : sw_C a b) (hr : r < 64) : sw_rd a b x r 6 = sw_rd a b x r 5 := by
  rw [sw_rd]
  exact sw_rd_fix hC hr
theorem sw_rd_cl (hC : sw_C a b) (hr : r < 64) : sw_cl a b x (fun i => (sw_rd a b x r 5).testBit i) := sw_fix_cl (sw_rd_fix hC hr)
theorem sw_co_bit : ∀ k i, (sw_co a b x k).testBit i = true ↔ ∃ s, s < k ∧ x.testBit s = true ∧ (a s = i ∨ b s = i)
  | 0, i => by simp [sw_co]
  | k + 1, i => by
    have ih := sw_co_bit k i
    unfold sw_co
    constructor
    · intro h
      split at h
      · rename_i hx
        rw [Nat.testBit_or, Bool.or_eq_true, ih, sw_e_bit, Bool.or_eq_true, decide_eq_true_eq, decide_eq_true_eq] at h
        rcases h with ⟨s, hs, h⟩ | h
        · exact ⟨s, by omega, h⟩
        · exact ⟨k, by omega, hx, h⟩
      · rw [ih] at h
        obtain ⟨s, hs, h⟩ := h
        exact ⟨s, by omega, h⟩
    · rintro ⟨s, hs, hx, h⟩
      rcases Nat.lt_or_ge s k with q | q
      · have w := ih.mpr ⟨s, q, hx, h⟩
        split
        · rw [Nat.testBit_or, w]; rfl
        · exact w
      · obtain rfl : s = k := by omega
        rw [if_pos hx, Nat.testBit_or, Bool.or_eq_true, sw_e_bit, Bool.or_eq_true, decide_eq_true_eq, decide_eq_true_eq]
        exact Or.inr h
/-- all that is left can be reached: X's test and Y's -/
theorem sw_walk_iff {c : Nat} (hC : sw_C a b) (hc : c < 6) : sw_sub (sw_co a b x 10) (sw_rd a b x (2 ^ c) 5) ↔ sw_af a x (sw_rd a b x (2 ^ c) 6) 10 = true := by
  have hr := sw_p64 c hc
  rw [sw_rd_6 hC hr, sw_af_iff]
  have hcl := sw_rd_cl (x := x) hC hr
  constructor
  · intro h s hs hx
    exact h _ ((sw_co_bit 10 _).mpr ⟨s, hs, hx, Or.inl rfl⟩)
  · intro h i hi
    obtain ⟨s, hs, hx, e⟩ := (sw_co_bit 10 i).mp hi
    have q := h s hs hx
    rcases e with e | e
    · rw [← e]; exact q
    · have w : (sw_rd a b x (2 ^ c) 5).testBit (a s) = (sw_rd a b x (2 ^ c) 5).testBit (b s) := hcl s hs hx
      rw [← e, ← w]; exact q
theorem sw_conn_iff {c s0 : Nat} (hC : sw_C a b) (hc : (sw_co a b x 10).testBit c = true) (hc6 : c < 6) (hs0 : s0 < 10) (hx0 : x.testBit s0 = true) : sw_rd a b x (2 ^ c) 5 = sw_co a b x 10 ↔ sw_af a x (sw_rd a b x (2 ^ a s0) 6) 10 = true := by
  rw [← sw_walk_iff hC (hC.1 s0)]
  have r1 := sw_p64 c hc6
  have r2 := sw_p64 _ (hC.1 s0)
  have cl1 := sw_rd_cl (x := x) hC r1
  have cl2 := sw_rd_cl (x := x) hC r2
  have in1 : (sw_rd a b x (2 ^ c) 5).testBit c = true := sw_rd_ge 5 c (by rw [sw_pbit]; simp)
  have in2 : (sw_rd a b x (2 ^ a s0) 5).testBit (a s0) = true := sw_rd_ge 5 _ (by rw [sw_pbit]; simp)
  have one : ∀ {j : Nat} {D : Nat → Bool}, D j = true → ∀ i, (2 ^ j).testBit i = true → D i = true := by
    intro j D hj i hi
    rw [sw_pbit, decide_eq_true_eq] at hi
    rw [← hi]; exact hj
  have le1 : ∀ D : Nat → Bool, sw_cl a b x D → D c = true → ∀ i, (sw_rd a b x (2 ^ c) 5).testBit i = true → D i = true := fun D hD h => sw_rd_in hD (one h) 5
  have le2 : ∀ D : Nat → Bool, sw_cl a b x D → D (a s0) = true → ∀ i, (sw_rd a b x (2 ^ a s0) 5).testBit i = true → D i = true := fun D hD h => sw_rd_in hD (one h) 5
  have clK : sw_cl a b x (fun i => (sw_co a b x 10).testBit i) := by
    intro s hs hx
    show (sw_co a b x 10).testBit (a s) = (sw_co a b x 10).testBit (b s)
    rw [(sw_co_bit 10 _).mpr ⟨s, hs, hx, Or.inl rfl⟩, (sw_co_bit 10 _).mpr ⟨s, hs, hx, Or.inr rfl⟩]
  have ncl : ∀ {D : Nat → Bool}, sw_cl a b x D → sw_cl a b x (fun i => !D i) := by
    intro D hD s hs hx
    show (!D (a s)) = (!D (b s))
    rw [hD s hs hx]
  have K0 : (sw_co a b x 10).testBit (a s0) = true := (sw_co_bit 10 _).mpr ⟨s0, hs0, hx0, Or.inl rfl⟩
  have sub1 : sw_sub (sw_rd a b x (2 ^ c) 5) (sw_co a b x 10) := le1 _ clK hc
  generalize sw_rd a b x (2 ^ c) 5 = R at *
  generalize sw_rd a b x (2 ^ a s0) 5 = Q at *
  generalize sw_co a b x 10 = K at *
  constructor
  · intro e
    subst e
    have hcQ : Q.testBit c = true := by
      cases w : Q.testBit c with
      | true => rfl
      | false =>
        have z := le1 _ (ncl cl2) (show (!Q.testBit c) = true by rw [w]; rfl) _ K0
        have z : (!Q.testBit (a s0)) = true := z
        rw [in2] at z
        exact absurd z (by decide)
    exact le1 _ cl2 hcQ
  · intro h
    have h0R : R.testBit (a s0) = true := by
      cases w : R.testBit (a s0) with
      | true => rfl
      | false =>
        have z := le2 _ (ncl cl1) (show (!R.testBit (a s0)) = true by rw [w]; rfl) _ (h c hc)
        have z : (!R.testBit c) = true := z
        rw [in1] at z
        exact absurd z (by decide)
    apply sw_sub_anti sub1
    intro i hi
    exact le2 _ cl1 h0R i (h i hi)
end
