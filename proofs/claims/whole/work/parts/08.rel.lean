/-! the relation, and the methods without a way or a walk -/
def sw_G (p : Nat) (a b l : Nat → Nat) : Prop := p < 1024 ∧ sw_C a b ∧ (∀ s, l s ≤ 20) ∧ (∀ s, p.testBit s = true → a s ≠ b s)
/-- the relation at the head of a turn whose first cell is k: both hold one town; what X keeps in distances and Y in left and near is free -/
def i_Rel (_ : Nat) (u : SX) (v : SY) : Prop := ∃ (p : Nat) (a b l : Nat → Nat) (D F N : Nat → Int32), u = (nI p, sw_na a, sw_na b, sw_na l, D) ∧ v = (sw_na (sw_tb p), sw_na a, sw_na b, sw_na l, F, N) ∧ sw_G p a b l
theorem i_up {k : Nat} {u : SX} {v : SY} (h : i_Rel k u v) : i_Rel (k + 4) u v := h
theorem sw_rel {k p : Nat} {a b l : Nat → Nat} {D F N : Nat → Int32} (G : sw_G p a b l) : i_Rel k (nI p, sw_na a, sw_na b, sw_na l, D) (sw_na (sw_tb p), sw_na a, sw_na b, sw_na l, F, N) := ⟨p, a, b, l, D, F, N, rfl, rfl, G⟩
theorem sw_tb0 : sw_na (sw_tb 0) = fun _ => 0 := by
  funext s
  simp [sw_na, sw_tb, nI_0]
theorem i_vc0 : wpX_init (fun u => wpY_init (fun v => i_Rel 0 u v)) := by
  refine ⟨0, fun _ => 0, fun _ => 0, fun _ => 0, fun _ => 0, fun _ => 0, fun _ => 0, rfl, ?_, by decide, ⟨fun s => (show 0 < 6 from by decide), fun s => (show 0 < 6 from by decide)⟩, fun s => (show 0 ≤ 20 from by decide), fun s hs => ?_⟩
  · rw [sw_tb0]; rfl
  · rw [Nat.zero_testBit] at hs; exact absurd hs (by decide)
theorem sw_tb_set (p s : Nat) : sw_up (sw_tb p) s 1 = sw_tb (p ||| 2 ^ s) := by
  funext i
  unfold sw_up sw_tb
  rw [sw_set_bit]
  by_cases e : i = s
  · subst e; simp
  · have e2 : ¬ s = i := fun q => e q.symm
    simp [e, e2]
theorem sw_tb_clr {p s : Nat} (hp : p < 1024) : sw_up (sw_tb p) s 0 = sw_tb (sw_clr p s) := by
  funext i
  unfold sw_up sw_tb
  rw [sw_clr_bit hp]
  by_cases e : i = s
  · subst e; simp
  · have e2 : ¬ s = i := fun q => e q.symm
    simp [e, e2]
section
variable {a b l : Nat → Nat} {D F N : Nat → Int32} {p i j m : Nat}
theorem sw_xbuild {post : Int32 → SX → Prop} (hp : p < 1024) (h : ∀ s, s < 10 → p.testBit s = false → (∀ j, j < s → p.testBit j = true) → post (nI s) (nI (p ||| 2 ^ s), sw_na (sw_up a s i), sw_na (sw_up b s j), sw_na (sw_up l s m), D)) (hf : (∀ j, j < 10 → p.testBit j = true) → post (-2) (nI p, sw_na a, sw_na b, sw_na l, D)) : ∃ n, wX_build_34 post (nI i) (nI j) (nI m) (nI p) (sw_na a) (sw_na b) (sw_na l) D n 0 := by
  refine loop_0 (fun n i' (_ : Unit) => wX_build_34 post (nI i) (nI j) (nI m) (nI p) (sw_na a) (sw_na b) (sw_na l) D n (nI i')) (fun i _ => ∀ j, j < i → p.testBit j = true) 10 () (fun j hj => absurd hj (Nat.not_lt_zero j)) ?_ ?_
  · intro n _ hs
    exact br_t (by decide) (hf hs)
  · intro n s _ hi hs hn
    refine br_f (nI_ge (b := 10) hi (by decide)) ?_
    refine sw_xcont (by omega) (by omega) (fun hb => br_f (by decide) ?_) (fun hb => br_t rfl ?_)
    · intro z ez
      rw [ez, nI_1]
      refine hn () ?_
      intro j hj
      rcases Nat.lt_or_ge j s with q | q
      · exact hs j q
      · obtain rfl : j = s := by omega
        exact hb
    · refine ⟨vp_in_nI hi (by decide), fun y1 e1 => ⟨vp_in_nI hi (by decide), fun y2 e2 => ⟨vp_in_nI hi (by decide), fun y3 e3 => fun y4 e4 => ?_⟩⟩⟩
      rw [sw_upd _ (by omega)] at e1 e2 e3
      rw [sw_setI _ hi] at e4
      rw [e1, e2, e3, e4]
      exact h s hi hb hs
theorem sw_ybuild {post : Int32 → SY → Prop} (h : ∀ s, s < 10 → p.testBit s = false → (∀ j, j < s → p.testBit j = true) → post (nI s) (sw_na (sw_tb (p ||| 2 ^ s)), sw_na (sw_up a s i), sw_na (sw_up b s j), sw_na (sw_up l s m), F, N)) (hf : (∀ j, j < 10 → p.testBit j = true) → post (-2) (sw_na (sw_tb p), sw_na a, sw_na b, sw_na l, F, N)) : ∃ n, wY_build_36 post (nI i) (nI j) (nI m) (sw_na (sw_tb p)) (sw_na a) (sw_na b) (sw_na l) F N n 0 := by
  refine loop_0 (fun n i' (_ : Unit) => wY_build_36 post (nI i) (nI j) (nI m) (sw_na (sw_tb p)) (sw_na a) (sw_na b) (sw_na l) F N n (nI i')) (fun i _ => ∀ j, j < i → p.testBit j = true) 10 () (fun j hj => absurd hj (Nat.not_lt_zero j)) ?_ ?_
  · intro n _ hs
    exact br_t (by decide) (hf hs)
  · intro n s _ hi hs hn
    refine br_f (nI_ge (b := 10) hi (by decide)) ⟨vp_in_nI hi (by decide), ?_⟩
    rw [sw_at _ (by omega)]
    cases hb : p.testBit s with
    | true =>
      refine br_f (by simp [sw_tb, hb]; decide) ?_
      intro z ez
      rw [ez, nI_1]
      refine hn () ?_
      intro j hj
      rcases Nat.lt_or_ge j s with q | q
      · exact hs j q
      · obtain rfl : j = s := by omega
        exact hb
    | false =>
      refine br_t (by simp [sw_tb, hb]; rfl) ?_
      refine ⟨vp_in_nI hi (by decide), fun y0 e0 => ⟨vp_in_nI hi (by decide), fun y1 e1 => ⟨vp_in_nI hi (by decide), fun y2 e2 => ⟨vp_in_nI hi (by decide), fun y3 e3 => ?_⟩⟩⟩⟩
      rw [show vp_nar .boolean 1 = nI 1 from rfl, sw_upd _ (by omega), sw_tb_set] at e0
      rw [sw_upd _ (by omega)] at e1 e2 e3
      rw [e0, e1, e2, e3]
      exact h s hi hb hs
end
theorem sw_up_lt {a : Nat → Nat} {n s m : Nat} (h : ∀ i, a i < n) (hm : m < n) : ∀ i, sw_up a s m i < n := by
  intro i
  unfold sw_up
  split
  · exact hm
  · exact h i
theorem i_vc_build {k : Nat} {u : SX} {v : SY} (I : i_Rel k u v) (hk : k + 4 ≤ 2048) (v1 : Int32) (v2 : Int32) (v3 : Int32) : wpX_build (fun r u' => wpY_build (fun r' v' => r' = r ∧ i_Rel (k + 4) u' v') v v1 v2 v3) u v1 v2 v3 := by
  obtain ⟨p, a, b, l, D, F, N, rfl, rfl, G⟩ := I
  obtain ⟨hp, hC, hl, hne⟩ := id G
  by_cases h12 : v1 = v2
  · exact br_t h12 (br_t h12 ⟨rfl, sw_rel G⟩)
  · refine br_f h12 ?_
    refine sw_xisC (fun c1 => br_f (by decide) ?_) (fun c1 => br_t rfl ?_)
    · refine sw_xisC (fun c2 => br_f (by decide) ?_) (fun c2 => br_t rfl ?_)
      · refine sw_xisL (fun c3 => br_f (by decide) ?_) (fun c3 => br_t rfl ?_)
        · have hy : ∀ {Q : Int32 → SY → Prop}, (∃ n36 : Nat, wY_build_36 Q v1 v2 v3 (sw_na (sw_tb p)) (sw_na a) (sw_na b) (sw_na l) F N n36 0) → wpY_build Q (sw_na (sw_tb p), sw_na a, sw_na b, sw_na l, F, N) v1 v2 v3 := by
            intro Q hQ
            refine br_f h12 ?_
            refine sw_yisC (fun _ => br_f (by decide) ?_) (fun z => absurd c1 z)
            refine sw_yisC (fun _ => br_f (by decide) ?_) (fun z => absurd c2 z)
            exact sw_lenrng2 (fun _ => hQ) (fun z => absurd c3 z)
          obtain ⟨i, hi, rfl⟩ := c1
          obtain ⟨j, hj, rfl⟩ := c2
          obtain ⟨m, hm, rfl⟩ := c3
          have hij : i ≠ j := fun e => h12 (by rw [e])
          refine sw_xbuild hp ?_ ?_
          · intro s hs hb hmin
            refine hy (sw_ybuild ?_ ?_)
            · intro s' hs' hb' hmin'
              have e : s' = s := by
                rcases Nat.lt_trichotomy s' s with q | q | q
                · rw [hmin s' q] at hb'; exact absurd hb' (by decide)
                · exact q
                · rw [hmin' s q] at hb; exact absurd hb (by decide)
              subst e
              refine ⟨rfl, sw_rel ⟨sw_or_lt hp (sw_p1024 s' hs'), ⟨sw_up_lt hC.1 hi, sw_up_lt hC.2 hj⟩, ?_, ?_⟩⟩
              · intro t
                unfold sw_up
                split
                · exact hm
                · exact hl t
              · intro t ht
                unfold sw_up
                split
                · exact hij
                · rename_i q
                  rw [sw_set_bit, decide_eq_false (fun z => q z.symm), Bool.or_false] at ht
                  exact hne t ht
            · intro hfull
              rw [hfull s hs] at hb
              exact absurd hb (by decide)
          · intro hfull
            refine hy (sw_ybuild ?_ ?_)
            · intro s' hs' hb' _
              rw [hfull s' hs'] at hb'
              exact absurd hb' (by decide)
            · intro _
              exact ⟨rfl, sw_rel G⟩
        · refine br_f h12 ?_
          refine sw_yisC (fun _ => br_f (by decide) ?_) (fun z => absurd c1 z)
          refine sw_yisC (fun _ => br_f (by decide) ?_) (fun z => absurd c2 z)
          exact sw_lenrng2 (fun z => absurd z c3) (fun _ => ⟨⟨rfl, sw_rel G⟩, ⟨rfl, sw_rel G⟩⟩)
      · refine br_f h12 ?_
        refine sw_yisC (fun _ => br_f (by decide) ?_) (fun z => absurd c1 z)
        exact sw_yisC (fun z => absurd z c2) (fun z => br_t rfl ⟨rfl, sw_rel G⟩)
    · refine br_f h12 ?_
      exact sw_yisC (fun z => absurd z c1) (fun z => br_t rfl ⟨rfl, sw_rel G⟩)
theorem i_vc_close {k : Nat} {u : SX} {v : SY} (I : i_Rel k u v) (hk : k + 4 ≤ 2048) (v1 : Int32) : wpX_close (fun r u' => wpY_close (fun r' v' => r' = r ∧ i_Rel (k + 4) u' v') v v1) u v1 := by
  obtain ⟨p, a, b, l, D, F, N, rfl, rfl, G⟩ := I
  obtain ⟨hp, hC, hl, hne⟩ := id G
  unfold wpX_close wpY_close
  dsimp only
  refine sw_xisS hp (fun c => br_f (by decide) ?_) (fun c => br_t rfl ?_)
  · obtain ⟨j, hj, rfl, hb⟩ := id c
    intro y ey
    rw [sw_clrI hp hj] at ey
    subst ey
    refine sw_yisS (fun _ => br_f (by decide) ?_) (fun z => absurd c z)
    refine ⟨vp_in_nI hj (by decide), ?_⟩
    intro w ew
    rw [show vp_nar .boolean 0 = nI 0 from rfl, sw_upd _ (by omega), sw_tb_clr hp] at ew
    subst ew
    refine ⟨rfl, sw_rel ⟨sw_clr_lt hp, hC, hl, fun s hs => hne s ?_⟩⟩
    rw [sw_clr_bit hp, Bool.and_eq_true] at hs
    exact hs.1
  · exact sw_yisS (fun z => absurd z c) (fun z => br_t rfl ⟨rfl, sw_rel G⟩)
theorem i_vc_setLength {k : Nat} {u : SX} {v : SY} (I : i_Rel k u v) (hk : k + 4 ≤ 2048) (v1 : Int32) (v2 : Int32) : wpX_setLength (fun r u' => wpY_setLength (fun r' v' => r' = r ∧ i_Rel (k + 4) u' v') v v1 v2) u v1 v2 := by
  obtain ⟨p, a, b, l, D, F, N, rfl, rfl, G⟩ := I
  obtain ⟨hp, hC, hl, hne⟩ := id G
  unfold wpX_setLength wpY_setLength
  dsimp only
  refine sw_xisS hp (fun c => br_f (by decide) ?_) (fun c => br_t rfl ?_)
  · obtain ⟨j, hj, rfl, hb⟩ := id c
    refine sw_xisL (fun c3 => br_f (by decide) ?_) (fun c3 => br_t rfl ?_)
    · obtain ⟨m, hm, rfl⟩ := id c3
      refine ⟨vp_in_nI hj (by decide), ?_⟩
      intro y ey
      rw [sw_upd _ (by omega)] at ey
      subst ey
      refine sw_yisS (fun _ => br_f (by decide) ?_) (fun z => absurd c z)
      refine sw_lenrng2 (fun _ => ⟨vp_in_nI hj (by decide), ?_⟩) (fun z => absurd c3 z)
      intro w ew
      rw [sw_upd _ (by omega)] at ew
      subst ew
      refine ⟨rfl, sw_rel ⟨hp, hC, ?_, hne⟩⟩
      intro t
      unfold sw_up
      split
      · exact hm
      · exact hl t
    · refine sw_yisS (fun _ => br_f (by decide) ?_) (fun z => absurd c z)
      exact sw_lenrng2 (fun z => absurd z c3) (fun _ => ⟨⟨rfl, sw_rel G⟩, ⟨rfl, sw_rel G⟩⟩)
  · exact sw_yisS (fun z => absurd z c) (fun z => br_t rfl ⟨rfl, sw_rel G⟩)
theorem i_vc_streets {k : Nat} {u : SX} {v : SY} (I : i_Rel k u v) (hk : k + 4 ≤ 2048) : wpX_streets (fun r => wpY_streets (fun r' => r' = r ∧ i_Rel (k + 4) u v) v) u := by
  obtain ⟨p, a, b, l, D, F, N, rfl, rfl, G⟩ := I
  exact sw_ystreets G.1 ⟨rfl, sw_rel G⟩
theorem i_vc_odd {k : Nat} {u : SX} {v : SY} (I : i_Rel k u v) (hk : k + 4 ≤ 2048) : wpX_odd (fun r => wpY_odd (fun r' => r' = r ∧ i_Rel (k + 4) u v) v) u := by
  obtain ⟨p, a, b, l, D, F, N, rfl, rfl, G⟩ := I
  exact sw_xodd G.2.1 G.1 (sw_yodd G.2.1 G.1 G.2.2.2 ⟨rfl, sw_rel G⟩)
theorem i_vc_connected {k : Nat} {u : SX} {v : SY} (I : i_Rel k u v) (hk : k + 4 ≤ 2048) : wpX_connected (fun r => wpY_connected (fun r' => r' = r ∧ i_Rel (k + 4) u v) v) u := by
  obtain ⟨p, a, b, l, D, F, N, rfl, rfl, G⟩ := I
  exact sw_xconn G.2.1 G.1 (fun c => sw_yconn G.2.1 G.1 (fun _ => ⟨rfl, sw_rel G⟩) (fun z => absurd c z)) (fun c => sw_yconn G.2.1 G.1 (fun z => absurd z c) (fun _ => ⟨rfl, sw_rel G⟩))
