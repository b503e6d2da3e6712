/-! the best set: X's order of sets against Y's order of codes -/
def sw_key (l : Nat → Nat) (s : Nat) : Nat := sw_len l s 10 * 1024 + sw_rev s
def sw_F (a b : Nat → Nat) (p nd al s : Nat) : Prop := sw_sub s al ∧ s &&& nd = nd ∧ sw_od a b s 10 = sw_od a b p 10
def sw_best (F : Nat → Prop) (l : Nat → Nat) (r : Int32) : Prop := (r = -1 ∧ ∀ s, s < 1024 → ¬ F s) ∨ ∃ m, m < 1024 ∧ r = nI m ∧ F m ∧ ∀ s, s < 1024 → F s → sw_key l m ≤ sw_key l s
theorem sw_best_u {F : Nat → Prop} {l : Nat → Nat} {r r' : Int32} (h : sw_best F l r) (h' : sw_best F l r') : r' = r := by
  rcases h with ⟨rfl, h⟩ | ⟨m, hm, rfl, hF, h⟩
  · rcases h' with ⟨rfl, h'⟩ | ⟨m', hm', rfl, hF', h'⟩
    · rfl
    · exact absurd hF' (h m' hm')
  · rcases h' with ⟨rfl, h'⟩ | ⟨m', hm', rfl, hF', h'⟩
    · exact absurd hF (h' m hm)
    · have h1 := h m' hm' hF'
      have h2 := h' m hm hF
      have r1 := sw_rev_lt m
      have r2 := sw_rev_lt m'
      unfold sw_key at h1 h2
      have e : sw_rev m' = sw_rev m := by omega
      have e2 := congrArg sw_rev e
      rw [sw_rev_rev hm, sw_rev_rev hm'] at e2
      rw [e2]
def sw_bi (F : Nat → Prop) (l : Nat → Nat) (g : Nat → Nat) (i : Nat) (r : Int32) : Prop := (r = -1 ∧ ∀ j, j < i → ¬ F (g j)) ∨ ∃ m, m < 1024 ∧ r = nI m ∧ F m ∧ (∃ j, j < i ∧ g j = m) ∧ ∀ j, j < i → F (g j) → sw_key l m ≤ sw_key l (g j)
section
variable {F : Nat → Prop} {l g : Nat → Nat} {i m : Nat} {r : Int32}
theorem sw_bi_skip (h : sw_bi F l g i r) (hF : ¬ F (g i)) : sw_bi F l g (i + 1) r := by
  rcases h with ⟨e, h⟩ | ⟨m, hm, e, hFm, ⟨j, hj, ej⟩, h⟩
  · refine Or.inl ⟨e, fun j hj => ?_⟩
    rcases Nat.lt_or_ge j i with q | q
    · exact h j q
    · obtain rfl : j = i := by omega
      exact hF
  · refine Or.inr ⟨m, hm, e, hFm, ⟨j, by omega, ej⟩, fun j hj hFj => ?_⟩
    rcases Nat.lt_or_ge j i with q | q
    · exact h j q hFj
    · obtain rfl : j = i := by omega
      exact absurd hFj hF
theorem sw_bi_first (h : ∀ j, j < i → ¬ F (g j)) (hF : F (g i)) (hg : g i < 1024) : sw_bi F l g (i + 1) (nI (g i)) := by
  refine Or.inr ⟨g i, hg, rfl, hF, ⟨i, by omega, rfl⟩, fun j hj hFj => ?_⟩
  rcases Nat.lt_or_ge j i with q | q
  · exact absurd hFj (h j q)
  · obtain rfl : j = i := by omega
    exact Nat.le_refl _
theorem sw_bi_take (h : ∀ j, j < i → F (g j) → sw_key l m ≤ sw_key l (g j)) (hF : F (g i)) (hg : g i < 1024) (hk : sw_key l (g i) < sw_key l m) : sw_bi F l g (i + 1) (nI (g i)) := by
  refine Or.inr ⟨g i, hg, rfl, hF, ⟨i, by omega, rfl⟩, fun j hj hFj => ?_⟩
  rcases Nat.lt_or_ge j i with q | q
  · have := h j q hFj
    omega
  · obtain rfl : j = i := by omega
    exact Nat.le_refl _
theorem sw_bi_keep (hm : m < 1024) (hFm : F m) (hj : ∃ j, j < i ∧ g j = m) (h : ∀ j, j < i → F (g j) → sw_key l m ≤ sw_key l (g j)) (hk : ¬ sw_key l (g i) < sw_key l m) : sw_bi F l g (i + 1) (nI m) := by
  obtain ⟨j, hj, ej⟩ := hj
  refine Or.inr ⟨m, hm, rfl, hFm, ⟨j, by omega, ej⟩, fun j hj hFj => ?_⟩
  rcases Nat.lt_or_ge j i with q | q
  · exact h j q hFj
  · obtain rfl : j = i := by omega
    omega
theorem sw_bi_end (h : sw_bi F l g 1024 r) (hg : ∀ s, s < 1024 → ∃ j, j < 1024 ∧ g j = s) : sw_best F l r := by
  rcases h with ⟨e, h⟩ | ⟨m, hm, e, hFm, _, h⟩
  · refine Or.inl ⟨e, fun s hs => ?_⟩
    obtain ⟨j, hj, rfl⟩ := hg s hs
    exact h j hj
  · refine Or.inr ⟨m, hm, e, hFm, fun s hs => ?_⟩
    obtain ⟨j, hj, rfl⟩ := hg s hs
    exact h j hj
end
theorem sw_and2 (o t : Nat) : o &&& 2 ^ t = if o.testBit t = true then 2 ^ t else 0 := by
  apply Nat.eq_of_testBit_eq
  intro i
  rw [Nat.testBit_and, sw_pbit]
  by_cases e : t = i
  · subst e
    cases h : o.testBit t with
    | true => simp [sw_pbit]
    | false => simp
  · rw [decide_eq_false e, Bool.and_false]
    split
    · rw [sw_pbit, decide_eq_false e]
    · simp
section
variable {post : Int32 → Prop} {P : Int32} {a b l : Nat → Nat} {A B L D F N : Nat → Int32} {p nd al nv : Nat}
theorem sw_xbetter {s o : Nat} (hl : ∀ s, l s ≤ 20) (hs : s < 1024) (ho : o < 1024) (h1 : sw_key l s < sw_key l o → post 1) (h0 : ¬ sw_key l s < sw_key l o → post 0) : wpX_isBetter post (P, A, B, sw_na l, D) (nI s) (nI o) := by
  have l1 := sw_len_le hl s 10
  have l2 := sw_len_le hl o 10
  have r1 := sw_rev_lt s
  have r2 := sw_rev_lt o
  refine sw_xlen hs (sw_xlen ho ?_)
  by_cases e : sw_len l s 10 = sw_len l o 10
  · refine br_t (by rw [e]) ?_
    intro y ey z ez
    rw [nx_xor] at ey
    subst ey
    by_cases hd : s ^^^ o = 0
    · rw [hd] at ez
      have ez : z = 0 := ez.trans (by decide)
      subst ez
      have e2 : s = o := by
        apply Nat.eq_of_testBit_eq
        intro i
        have q := congrArg (fun y => Nat.testBit y i) hd
        simp only [Nat.testBit_xor, Nat.zero_testBit] at q
        cases hs : s.testBit i <;> cases ho : o.testBit i <;> simp_all
      refine br_t Int32.and_zero (h0 ?_)
      rw [e2]
      exact Nat.lt_irrefl _
    · have hx := sw_xor_lt hs ho
      have hbt := sw_low_bit _ hx hd
      have hmin := sw_low_min _ hx hd
      rw [sw_lowI _ hx hd] at ez
      subst ez
      generalize sw_low (s ^^^ o) = t at *
      have ht := sw_lo hx hbt
      have ht2 := sw_p1024 t ht
      have ht0 : 0 < 2 ^ t := Nat.two_pow_pos t
      have hag : ∀ i, i < t → s.testBit i = o.testBit i := by
        intro i hi
        have q := hmin i (by omega) hi
        rw [Nat.testBit_xor] at q
        cases h1 : s.testBit i <;> cases h2 : o.testBit i <;> simp_all
      rw [Nat.testBit_xor] at hbt
      have hand := sw_and2 o t
      cases hot : o.testBit t with
      | true =>
        have hst : s.testBit t = false := by
          cases h1 : s.testBit t <;> simp_all
        rw [hot, if_pos rfl] at hand
        refine br_f (by rw [nx_and, hand, sw_e0 (by omega)]; omega) (h1 ?_)
        have := sw_rev_lt_of ht hst hot hag
        unfold sw_key
        omega
      | false =>
        have hst : s.testBit t = true := by
          cases h1 : s.testBit t <;> simp_all
        rw [hot, if_neg (by decide)] at hand
        refine br_t (by rw [nx_and, hand]; rfl) (h0 ?_)
        have := sw_rev_lt_of ht hot hst (fun i hi => (hag i hi).symm)
        unfold sw_key
        omega
  · refine br_f (sw_ne (by omega) (by omega) e) ?_
    unfold sw_key at h0 h1
    by_cases q : sw_len l o 10 ≤ sw_len l s 10
    · exact br_t (nI_le q (by omega)) (h0 (by omega))
    · exact br_f (nI_ge (by omega) (by omega)) (h1 (by omega))
theorem sw_xbest (hC : sw_C a b) (hl : ∀ s, l s ≤ 20) (hp : p < 1024) (hnd : nd < 1024) (hal : al < 1024) (h : ∀ r, sw_best (sw_F a b p nd al) l r → post r) : wpX_bestAmong post (nI p, sw_na a, sw_na b, sw_na l, D) (nI nd) (nI al) := by
  refine sw_xodd hC hp ?_
  have o2 := sw_od64 hC p 10
  refine loop_0 (fun n i s => wX_bestAmong_15 post (nI nd) (nI al) (nI (sw_od a b p 10)) (nI p) (sw_na a) (sw_na b) (sw_na l) D n s (nI i)) (fun i s => sw_bi (sw_F a b p nd al) l id i s) 1024 (-1) (Or.inl ⟨rfl, fun j hj => absurd hj (Nat.not_lt_zero j)⟩) ?_ ?_
  · intro n s hs
    exact br_t (by decide) (h _ (sw_bi_end hs (fun s hs => ⟨s, hs, rfl⟩)))
  · intro n i s hi hs hn
    have o1 := sw_od64 hC i 10
    have skip : ¬ sw_F a b p nd al i → ∀ z, z = nI i + 1 → wX_bestAmong_15 post (nI nd) (nI al) (nI (sw_od a b p 10)) (nI p) (sw_na a) (sw_na b) (sw_na l) D n s z := by
      intro hF z ez
      rw [ez, nI_1]
      exact hn _ (sw_bi_skip hs hF)
    refine br_f (nI_ge (b := 1024) hi (by decide)) ?_
    by_cases c1 : i &&& nd = nd
    · refine br_t (by rw [nx_and, c1]) ?_
      by_cases c2 : sw_sub i al
      · refine br_t (by rw [sw_andn hi hal, (sw_subN hi).mpr c2]; rfl) ?_
        refine br_f (by decide) ?_
        refine sw_xodd hC hi ?_
        by_cases c3 : sw_od a b i 10 = sw_od a b p 10
        · refine br_t (by rw [c3]) ?_
          have hF : sw_F a b p nd al (id i) := ⟨c2, c1, c3⟩
          rcases hs with ⟨rfl, hs⟩ | ⟨m, hm, rfl, hFm, hj, hs⟩
          · refine br_t rfl ?_
            intro z ez
            rw [ez, nI_1]
            exact hn _ (sw_bi_first hs hF hi)
          · refine br_f (sw_nm1 (by omega)) ?_
            refine sw_xbetter hl hi hm (fun k => br_f (by decide) ?_) (fun k => br_t rfl ?_)
            · intro z ez
              rw [ez, nI_1]
              exact hn _ (sw_bi_take hs hF hi k)
            · intro z ez
              rw [ez, nI_1]
              exact hn _ (sw_bi_keep hm hFm hj hs k)
        · exact br_f (sw_ne (by omega) (by omega) c3) (skip (fun q => c3 q.2.2))
      · refine br_f (by rw [sw_andn hi hal, sw_e0 (Nat.lt_trans (sw_and_lt hi) (by decide)), sw_subN hi]; exact c2) ?_
        exact br_t rfl (skip (fun q => c2 q.1))
    · have hle : i &&& nd ≤ i := Nat.and_le_left
      refine br_f (by rw [nx_and]; exact sw_ne (by omega) (by omega) c1) ?_
      exact br_t rfl (skip (fun q => c1 q.2.1))
theorem sw_yfirst (hC : sw_C a b) (hl : ∀ s, l s ≤ 20) (hp : p < 1024) (hne : ∀ s, p.testBit s = true → a s ≠ b s) (hnd : nd < 1024) (hal : ∀ s, s < 1024 → (sw_sub s al ↔ sw_sub s p ∧ s &&& nv = 0)) (h : ∀ r, sw_best (sw_F a b p nd al) l r → post r) : wpY_first post (sw_na (sw_tb p), sw_na a, sw_na b, sw_na l, F, N) (nI nd) (nI nv) := by
  refine sw_ystreets hp (sw_yodd hC hp hne ?_)
  have o2 := sw_od64 hC p 10
  refine loop_0 (fun n i s => wY_first_17 post (nI nd) (nI nv) (nI p) (nI (sw_od a b p 10)) (sw_na (sw_tb p)) (sw_na a) (sw_na b) (sw_na l) F N n s (nI i)) (fun i s => sw_bi (sw_F a b p nd al) l sw_rev i s) 1024 (-1) (Or.inl ⟨rfl, fun j hj => absurd hj (Nat.not_lt_zero j)⟩) ?_ ?_
  · intro n s hs
    exact br_t (by decide) (h _ (sw_bi_end hs (fun s hs => ⟨sw_rev s, sw_rev_lt s, sw_rev_rev hs⟩)))
  · intro n i s hi hs hn
    have ho := sw_rev_lt i
    have hri := sw_rev_rev hi
    have o1 := sw_od64 hC (sw_rev i) 10
    have l1 := sw_len_le hl (sw_rev i) 10
    have skip : ¬ sw_F a b p nd al (sw_rev i) → ∀ z, z = nI i + 1 → wY_first_17 post (nI nd) (nI nv) (nI p) (nI (sw_od a b p 10)) (sw_na (sw_tb p)) (sw_na a) (sw_na b) (sw_na l) F N n s z := by
      intro hF z ez
      rw [ez, nI_1]
      exact hn _ (sw_bi_skip hs hF)
    refine br_f (nI_ge (b := 1024) hi (by decide)) ?_
    refine sw_ysetOf hi ?_
    by_cases c2 : sw_sub (sw_rev i) p
    · refine br_t (by rw [sw_andn ho hp, (sw_subN ho).mpr c2]; rfl) ?_
      by_cases c1 : sw_rev i &&& nd = nd
      · refine br_t (by rw [nx_and, c1]) ?_
        have hle : sw_rev i &&& nv ≤ sw_rev i := Nat.and_le_left
        by_cases c4 : sw_rev i &&& nv = 0
        · refine br_t (by rw [nx_and, c4]; rfl) ?_
          refine sw_yoddOf hC ho (fun s hs => hne s (c2 s hs)) ?_
          by_cases c3 : sw_od a b (sw_rev i) 10 = sw_od a b p 10
          · refine br_t (by rw [c3]) ?_
            have hF : sw_F a b p nd al (sw_rev i) := ⟨(hal _ ho).mpr ⟨c2, c4⟩, c1, c3⟩
            refine sw_ylen ho ?_
            rcases hs with ⟨rfl, hs⟩ | ⟨m, hm, rfl, hFm, hj, hs⟩
            · refine br_f (by decide) ?_
              refine br_f (nI_ge (b := 100000) (by omega) (by decide)) ?_
              intro z ez
              rw [ez, nI_1]
              exact hn _ (sw_bi_first hs hF ho)
            · refine br_t (nI_pos' (by omega)) ?_
              refine sw_ylen hm ?_
              have l2 := sw_len_le hl m 10
              have r2 := sw_rev_lt m
              by_cases q : sw_len l m 10 ≤ sw_len l (sw_rev i) 10
              · refine br_t (nI_le q (by omega)) ?_
                intro z ez
                rw [ez, nI_1]
                refine hn _ (sw_bi_keep hm hFm hj hs ?_)
                obtain ⟨j, hj, rfl⟩ := hj
                have hrj := sw_rev_rev (show j < 1024 by omega)
                unfold sw_key
                rw [hri, hrj]
                omega
              · refine br_f (nI_ge (by omega) (by omega)) ?_
                intro z ez
                rw [ez, nI_1]
                refine hn _ (sw_bi_take hs hF ho ?_)
                unfold sw_key
                rw [hri]
                omega
          · exact br_f (sw_ne (by omega) (by omega) c3) (skip (fun q => c3 q.2.2))
        · exact br_f (by rw [nx_and, sw_e0 (by omega)]; exact c4) (skip (fun q => c4 ((hal _ ho).mp q.1).2))
      · have hle : sw_rev i &&& nd ≤ sw_rev i := Nat.and_le_left
        exact br_f (by rw [nx_and]; exact sw_ne (by omega) (by omega) c1) (skip (fun q => c1 q.2.1))
    · exact br_f (by rw [sw_andn ho hp, sw_e0 (Nat.lt_trans (sw_and_lt ho) (by decide)), sw_subN ho]; exact c2) (skip (fun q => c2 ((hal _ ho).mp q.1).1))
end
