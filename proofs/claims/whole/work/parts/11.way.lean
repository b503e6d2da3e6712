/-! way: both walks against the sweep -/
def sw_dv (m : Nat) : Int32 := if m < 100000 then nI m else -1
def sw_dd (n : Nat → Nat) (D : Nat → Int32) : Prop := ∀ c, c < 6 → D c = sw_dv (n c)
def sw_nn (n : Nat → Nat) (N : Nat → Int32) : Prop := ∀ c, c < 6 → N c = nI (n c)
def sw_s1 (n : Nat → Nat) (f t m : Nat) : Nat → Nat := sw_up n t (sw_mn (n t) (n f + m))
theorem sw_dv_lt {m : Nat} (h : m < 100000) : sw_dv m = nI m := if_pos h
theorem sw_dv_ge {m : Nat} (h : ¬ m < 100000) : sw_dv m = -1 := if_neg h
theorem sw_dd_up {n : Nat → Nat} {D : Nat → Int32} {t v w : Nat} (h : sw_dd n D) (hv : v < 100000) (hw : w = v) (ht : t < 2 ^ 31) : sw_dd (sw_up n t w) (upd D (nI t).toNatClampNeg (nI v)) := by
  subst hw
  intro c hc
  rw [nI_clamp ht]
  unfold upd sw_up
  by_cases e : c = t
  · rw [if_pos e, if_pos e, sw_dv_lt hv]
  · rw [if_neg e, if_neg e]; exact h c hc
theorem sw_dd_same {n : Nat → Nat} {D : Nat → Int32} {t w : Nat} (h : sw_dd n D) (hw : w = n t) : sw_dd (sw_up n t w) D := by
  subst hw
  intro c hc
  unfold sw_up
  by_cases e : c = t
  · rw [if_pos e, ← e]; exact h c hc
  · rw [if_neg e]; exact h c hc
theorem sw_nn_up {n : Nat → Nat} {N : Nat → Int32} {t v : Nat} (h : sw_nn n N) (ht : t < 2 ^ 31) : sw_nn (sw_up n t v) (upd N (nI t).toNatClampNeg (nI v)) := by
  intro c hc
  rw [nI_clamp ht]
  unfold upd sw_up
  by_cases e : c = t
  · rw [if_pos e, if_pos e]
  · rw [if_neg e, if_neg e]; exact h c hc
theorem sw_s1_rx {a b l n : Nat → Nat} {p s : Nat} (hp : p.testBit s = true) (hab : a s ≠ b s) : sw_s1 (sw_s1 n (a s) (b s) (l s)) (b s) (a s) (l s) = sw_rx a b l p s n := by
  unfold sw_s1 sw_rx
  rw [if_pos hp]
  have e1 : ∀ v, sw_up n (b s) v (a s) = n (a s) := fun v => if_neg hab
  have e2 : ∀ v, sw_up n (b s) v (b s) = v := fun v => if_pos rfl
  rw [e1, e2]
  congr 1
  unfold sw_mn
  repeat' split
  all_goals omega
theorem sw_s1_B {n : Nat → Nat} {f t m B : Nat} (hm : m ≤ 20) (h : sw_B B n) : sw_B (B + 20) (sw_s1 n f t m) := by
  intro c
  have hc := h c
  have hf := h f
  have ht := h t
  unfold sw_s1 sw_up sw_mn
  split
  · split <;> omega
  · omega
section
variable {P : Int32} {a b l n : Nat → Nat} {A B' L D F N : Nat → Int32} {p : Nat}
theorem sw_xsd {post : SX → Prop} {f t m B : Nat} (hf : f < 6) (ht : t < 6) (hm : m ≤ 20) (hB : sw_B B n) (hB2 : B + 20 < 100000) (hD : sw_dd n D) (h : ∀ D', sw_dd (sw_s1 n f t m) D' → post (P, A, B', L, D')) : wpX_shortenDistance post (P, A, B', L, D) (nI f) (nI t) (nI m) := by
  have ef : D (nI f).toNatClampNeg = sw_dv (n f) := by rw [nI_clamp (by omega)]; exact hD f hf
  have et : D (nI t).toNatClampNeg = sw_dv (n t) := by rw [nI_clamp (by omega)]; exact hD t ht
  have bf := hB f
  have bt := hB t
  refine ⟨vp_in_nI hf (by decide), ?_⟩
  rw [ef, et]
  by_cases c1 : n f < 100000
  · rw [sw_dv_lt c1]
    refine br_f (sw_nm1 (by omega)) ⟨vp_in_nI hf (by decide), ?_⟩
    intro y ey
    rw [nI_add] at ey
    subst ey
    refine ⟨vp_in_nI ht (by decide), ?_⟩
    by_cases c2 : n t < 100000
    · rw [sw_dv_lt c2]
      refine br_f (sw_nm1 (by omega)) ⟨vp_in_nI ht (by decide), ?_⟩
      by_cases c3 : n t ≤ n f + m
      · exact br_t (nI_le c3 (by omega)) (h _ (sw_dd_same hD (by unfold sw_mn; rw [if_pos c3])))
      · refine br_f (nI_ge (by omega) (by omega)) ⟨vp_in_nI ht (by decide), ?_⟩
        intro w ew
        subst ew
        exact h _ (sw_dd_up hD (by omega) (by unfold sw_mn; rw [if_neg c3]) (by omega))
    · rw [sw_dv_ge c2]
      refine br_t rfl ⟨vp_in_nI ht (by decide), ?_⟩
      intro w ew
      subst ew
      exact h _ (sw_dd_up hD (by omega) (by unfold sw_mn; rw [if_neg (by omega)]) (by omega))
  · rw [sw_dv_ge c1]
    exact br_t rfl (h _ (sw_dd_same hD (by unfold sw_mn; rw [if_pos (by omega)])))
theorem sw_xsds {post : SX → Prop} {m : Nat} (G : sw_G p a b l) (hB : sw_B m n) (hm : m ≤ 10000) (hD : sw_dd n D) (h : ∀ D', sw_dd (sw_sv a b l p n 10) D' → post (nI p, sw_na a, sw_na b, sw_na l, D')) : wpX_shortenDistances post (nI p, sw_na a, sw_na b, sw_na l, D) := by
  obtain ⟨hp, hC, hl, hne⟩ := G
  refine loop_0 (fun n' i D => wX_shortenDistances_2 post n' (nI i) (nI p) (sw_na a) (sw_na b) (sw_na l) D) (fun i D => sw_dd (sw_sv a b l p n i) D) 10 D hD ?_ ?_
  · intro n' D hD
    exact br_t (by decide) (h D hD)
  · intro n' i D hi hD hn
    have hBi := sw_sv_B (a := a) (b := b) (p := p) hl hB i
    refine br_f (nI_ge (b := 10) hi (by decide)) ?_
    refine sw_xcont (by omega) (by omega) (fun hb => br_f (by decide) ?_) (fun hb => br_t rfl ?_)
    · refine ⟨vp_in_nI hi (by decide), vp_in_nI hi (by decide), vp_in_nI hi (by decide), ?_⟩
      rw [sw_at a (by omega), sw_at b (by omega), sw_at l (by omega)]
      refine sw_xsd (hC.1 i) (hC.2 i) (hl i) hBi (by omega) hD ?_
      intro D' hD'
      dsimp only
      refine ⟨vp_in_nI hi (by decide), vp_in_nI hi (by decide), vp_in_nI hi (by decide), ?_⟩
      rw [sw_at a (by omega), sw_at b (by omega), sw_at l (by omega)]
      refine sw_xsd (hC.2 i) (hC.1 i) (hl i) (sw_s1_B (hl i) hBi) (by omega) hD' ?_
      intro D'' hD''
      dsimp only
      intro z ez
      rw [ez, nI_1]
      rw [sw_s1_rx hb (hne i hb)] at hD''
      exact hn D'' hD''
    · intro z ez
      rw [ez, nI_1]
      refine hn D ?_
      rw [sw_sv]
      unfold sw_rx
      rw [hb, if_neg (by decide)]
      exact hD
theorem sw_xway {post : Int32 → SX → Prop} {st t : Nat} (G : sw_G p a b l) (hst : st < 6) (ht : t < 6) (h : ∀ D', post (sw_dv (sw_nr a b l p (sw_n0 st) 5 t)) (nI p, sw_na a, sw_na b, sw_na l, D')) : ∃ n20 : Nat, wX_way_20 post (nI st) (nI t) (nI p) n20 0 (sw_na a) (sw_na b) (sw_na l) D := by
  have H : ∀ d j, j + d = 5 → ∀ D, sw_dd (sw_nr a b l p (sw_n0 st) j) D → wX_way_48 post (nI t) (d + 1) (nI (j + 1)) (nI p) (sw_na a) (sw_na b) (sw_na l) D := by
    intro d
    induction d with
    | zero =>
      intro j hj D hD
      obtain rfl : j = 5 := by omega
      refine br_t (by decide) ⟨vp_in_nI ht (by decide), ?_⟩
      rw [nI_clamp (by omega), hD t ht]
      exact h D
    | succ d ih =>
      intro j hj D hD
      refine br_f (nI_ge (b := 6) (by omega) (by decide)) ?_
      refine sw_xsds G (sw_nr_B G.2.2.1 st j) (by omega) hD ?_
      intro D' hD'
      dsimp only
      intro z ez
      rw [ez, nI_1]
      exact ih (j + 1) (by omega) D' hD'
  refine loop_0 (fun n' i D => wX_way_20 post (nI st) (nI t) (nI p) n' (nI i) (sw_na a) (sw_na b) (sw_na l) D) (fun i D => ∀ c, c < i → D c = -1) 6 D (fun c hc => absurd hc (Nat.not_lt_zero c)) ?_ ?_
  · intro n' D hD
    refine br_t (by decide) ⟨vp_in_nI hst (by decide), ?_⟩
    intro w ew
    subst ew
    refine ⟨6, H 5 0 rfl _ ?_⟩
    intro c hc
    rw [nI_clamp (by omega)]
    unfold upd
    rw [sw_nr]
    unfold sw_n0
    by_cases e : c = st
    · rw [if_pos e, if_pos e, sw_dv_lt (by decide)]; rfl
    · rw [if_neg e, if_neg e, hD c hc, sw_dv_ge (by decide)]
  · intro n' i D hi hD hn
    refine br_f (nI_ge (b := 6) hi (by decide)) ⟨vp_in_nI hi (by decide), ?_⟩
    intro w ew z ez
    rw [ez, nI_1, ew]
    refine hn _ ?_
    intro c hc
    rw [nI_clamp (by omega)]
    unfold upd
    by_cases e : c = i
    · rw [if_pos e]
    · rw [if_neg e]; exact hD c (by omega)
theorem sw_y166 {post : Int32 → SY → Prop} {J51 J60 : Int32 → (Nat → Int32) → (Nat → Int32) → (Nat → Int32) → (Nat → Int32) → (Nat → Int32) → (Nat → Int32) → Prop} {x2 x3 : Int32} {T : Nat → Int32} {i y v : Nat} (hC : sw_C a b) (hi : i < 10) (hN : sw_nn n N) (hab : a i ≠ b i) (hna : n (a i) < 2 ^ 31) (hy : y < 2 ^ 31) (h : ∀ N', sw_nn (sw_up (sw_up n (b i) v) (a i) (sw_mn (n (a i)) y)) N' → J60 (nI (i + 1)) T (sw_na a) (sw_na b) L F N') : wY_way_166 post J51 J60 x2 x3 (nI i) (nI y) (nI v) (nI (b i)) T (sw_na a) (sw_na b) L F N := by
  have ha := hC.1 i
  have hb := hC.2 i
  refine ⟨vp_in_nI hb (by decide), ?_⟩
  intro w ew
  have hw : sw_nn (sw_up n (b i) v) w := by rw [ew]; exact sw_nn_up hN (by omega)
  rw [sw_at a (by omega)]
  have ea : w (nI (a i)).toNatClampNeg = nI (n (a i)) := by
    rw [nI_clamp (by omega), hw _ ha]
    exact congrArg nI (if_neg hab)
  rw [ea]
  refine ⟨vp_in_nI hi (by decide), vp_in_nI hi (by decide), vp_in_nI ha (by decide), ?_⟩
  by_cases c : n (a i) ≤ y
  · refine br_t (nI_le c hy) ⟨vp_in_nI hi (by decide), vp_in_nI ha (by decide), vp_in_nI ha (by decide), ?_⟩
    intro w2 e2 z ez
    rw [ez, nI_1, e2]
    refine h _ ?_
    unfold sw_mn
    rw [if_pos c]
    exact sw_nn_up hw (by omega)
  · refine br_f (nI_ge (by omega) hna) ⟨vp_in_nI ha (by decide), ?_⟩
    intro w2 e2 z ez
    rw [ez, nI_1, e2]
    refine h _ ?_
    unfold sw_mn
    rw [if_neg c]
    exact sw_nn_up hw (by omega)
theorem sw_yway {post : Int32 → SY → Prop} {st t : Nat} (G : sw_G p a b l) (hst : st < 6) (ht : t < 6) (h : ∀ N', post (sw_dv (sw_nr a b l p (sw_n0 st) 6 t)) (sw_na (sw_tb p), sw_na a, sw_na b, sw_na l, F, N')) : ∃ n20 : Nat, wY_way_20 post (nI st) (nI t) n20 0 (sw_na (sw_tb p)) (sw_na a) (sw_na b) (sw_na l) F N := by
  obtain ⟨hp, hC, hl, hne⟩ := G
  have H : ∀ d j, j + d = 6 → ∀ N, sw_nn (sw_nr a b l p (sw_n0 st) j) N → wY_way_51 post (nI t) (d + 1) (nI j) (sw_na (sw_tb p)) (sw_na a) (sw_na b) (sw_na l) F N := by
    intro d
    induction d with
    | zero =>
      intro j hj N hN
      obtain rfl : j = 6 := by omega
      refine br_t (by decide) ⟨vp_in_nI ht (by decide), ?_⟩
      rw [nI_clamp (by omega), hN t ht]
      have hB := sw_nr_B (a := a) (b := b) (p := p) hl st 6 t
      by_cases c : sw_nr a b l p (sw_n0 st) 6 t < 100000
      · refine br_f (nI_ge (b := 100000) c (by decide)) ⟨vp_in_nI ht (by decide), ?_⟩
        have q := h N
        rw [sw_dv_lt c] at q
        exact q
      · refine br_t (nI_le (a := 100000) (by omega) (by omega)) ?_
        have q := h N
        rw [sw_dv_ge c] at q
        exact q
    | succ d ih =>
      intro j hj N hN
      refine br_f (nI_ge (b := 6) (by omega) (by decide)) ?_
      refine loop_0 (fun n' i N => wY_way_60 post (wY_way_51 post (nI t) (d + 1)) (nI t) (nI j) n' (nI i) (sw_na (sw_tb p)) (sw_na a) (sw_na b) (sw_na l) F N) (fun i N => sw_nn (sw_sv a b l p (sw_nr a b l p (sw_n0 st) j) i) N) 10 N hN ?_ ?_
      · intro n' N hN
        refine br_t (by decide) ?_
        intro z ez
        rw [ez, nI_1]
        exact ih (j + 1) (by omega) N hN
      · intro n' i N hi hN hn
        have hBi := sw_sv_B (a := a) (b := b) (p := p) hl (sw_nr_B (a := a) (b := b) (p := p) hl st j) i
        have ha := hC.1 i
        have hb := hC.2 i
        have hli := hl i
        have ba := hBi (a i)
        have bb := hBi (b i)
        have en : sw_sv a b l p (sw_nr a b l p (sw_n0 st) j) (i + 1) = sw_rx a b l p i (sw_sv a b l p (sw_nr a b l p (sw_n0 st) j) i) := rfl
        generalize sw_sv a b l p (sw_nr a b l p (sw_n0 st) j) (i + 1) = q' at *
        generalize sw_sv a b l p (sw_nr a b l p (sw_n0 st) j) i = q at *
        refine br_f (nI_ge (b := 10) hi (by decide)) ⟨vp_in_nI hi (by decide), ?_⟩
        rw [sw_at (sw_tb p) (by omega)]
        cases hbit : p.testBit i with
        | false =>
          refine br_t (by simp [sw_tb, hbit]; rfl) ?_
          intro z ez
          rw [ez, nI_1]
          refine hn N ?_
          rw [en]
          unfold sw_rx
          rw [hbit, if_neg (by decide)]
          exact hN
        | true =>
          refine br_f (by simp [sw_tb, hbit]; decide) ?_
          rw [sw_at a (by omega), sw_at b (by omega), sw_at l (by omega)]
          have ea : N (nI (a i)).toNatClampNeg = nI (q (a i)) := by rw [nI_clamp (by omega)]; exact hN _ ha
          have eb : N (nI (b i)).toNatClampNeg = nI (q (b i)) := by rw [nI_clamp (by omega)]; exact hN _ hb
          rw [ea, eb]
          refine ⟨vp_in_nI hi (by decide), vp_in_nI ha (by decide), vp_in_nI hi (by decide), ?_⟩
          intro y5 e5
          refine ⟨vp_in_nI hi (by decide), vp_in_nI hb (by decide), vp_in_nI hi (by decide), ?_⟩
          intro y6 e6
          rw [nI_add] at e5 e6
          subst e5 e6
          refine ⟨vp_in_nI hi (by decide), vp_in_nI hi (by decide), vp_in_nI hb (by decide), ?_⟩
          have hab := hne i hbit
          by_cases c : q (b i) ≤ q (a i) + l i
          · refine br_t (nI_le c (by omega)) ⟨vp_in_nI hi (by decide), vp_in_nI hb (by decide), ?_⟩
            refine sw_y166 hC hi hN hab (by omega) (by omega) ?_
            intro N' hN'
            refine hn N' ?_
            rw [en]
            unfold sw_rx
            rw [if_pos hbit, show sw_mn (q (b i)) (q (a i) + l i) = q (b i) from if_pos c]
            exact hN'
          · refine br_f (nI_ge (by omega) (by omega)) ?_
            refine sw_y166 hC hi hN hab (by omega) (by omega) ?_
            intro N' hN'
            refine hn N' ?_
            rw [en]
            unfold sw_rx
            rw [if_pos hbit, show sw_mn (q (b i)) (q (a i) + l i) = q (a i) + l i from if_neg c]
            exact hN'
  refine loop_0 (fun n' i N => wY_way_20 post (nI st) (nI t) n' (nI i) (sw_na (sw_tb p)) (sw_na a) (sw_na b) (sw_na l) F N) (fun i N => ∀ c, c < i → N c = nI (sw_n0 st c)) 6 N (fun c hc => absurd hc (Nat.not_lt_zero c)) ?_ ?_
  · intro n' N hN
    exact br_t (by decide) ⟨7, H 6 0 rfl N hN⟩
  · intro n' i N hi hN hn
    refine br_f (nI_ge (b := 6) hi (by decide)) ?_
    have goal : ∀ v, v = sw_n0 st i → ∀ c, c < i + 1 → upd N (nI i).toNatClampNeg (nI v) c = nI (sw_n0 st c) := by
      intro v hv c hc
      rw [nI_clamp (by omega)]
      unfold upd
      by_cases e : c = i
      · rw [if_pos e, hv, e]
      · rw [if_neg e]; exact hN c (by omega)
    by_cases e : i = st
    · refine br_t (by rw [e]) ⟨vp_in_nI hi (by decide), ?_⟩
      intro w ew z ez
      rw [ez, nI_1, ew]
      exact hn _ (goal 0 (by unfold sw_n0; rw [if_pos e]))
    · refine br_f (sw_ne (by omega) (by omega) e) ⟨vp_in_nI hi (by decide), ?_⟩
      intro w ew z ez
      rw [ez, nI_1, ew]
      exact hn _ (goal 100000 (by unfold sw_n0; rw [if_neg e]))
end
theorem i_vc_way {k : Nat} {u : SX} {v : SY} (I : i_Rel k u v) (hk : k + 4 ≤ 2048) (v1 : Int32) (v2 : Int32) : wpX_way (fun r u' => wpY_way (fun r' v' => r' = r ∧ i_Rel (k + 4) u' v') v v1 v2) u v1 v2 := by
  obtain ⟨p, a, b, l, D, F, N, rfl, rfl, G⟩ := I
  unfold wpX_way wpY_way
  dsimp only
  refine sw_xisC (fun c1 => br_f (by decide) ?_) (fun c1 => br_t rfl ?_)
  · refine sw_xisC (fun c2 => br_f (by decide) ?_) (fun c2 => br_t rfl ?_)
    · obtain ⟨i, hi, rfl⟩ := id c1
      obtain ⟨j, hj, rfl⟩ := id c2
      refine sw_xway G hi hj ?_
      intro D'
      refine sw_yisC (fun _ => br_f (by decide) ?_) (fun z => absurd c1 z)
      refine sw_yisC (fun _ => br_f (by decide) ?_) (fun z => absurd c2 z)
      refine sw_yway G hi hj ?_
      intro N'
      exact ⟨by rw [sw_nr_6 G.2.1 G.2.2.2 hi], sw_rel G⟩
    · refine sw_yisC (fun _ => br_f (by decide) ?_) (fun z => absurd c1 z)
      exact sw_yisC (fun z => absurd z c2) (fun z => br_t rfl ⟨rfl, sw_rel G⟩)
  · exact sw_yisC (fun z => absurd z c1) (fun z => br_t rfl ⟨rfl, sw_rel G⟩)
