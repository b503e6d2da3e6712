/-! the walk: X's two sets against Y's counts, in lockstep -/
def sw_lf (f : Nat → Nat) : Nat := sw_ms (fun s => decide (0 < f s)) 10
def sw_tw (f : Nat → Nat) : Nat := sw_ms (fun s => decide (1 < f s)) 10
def sw_dn (f : Nat → Nat) (s : Nat) : Nat → Nat := sw_up f s (f s - 1)
def sw_ot (a b : Nat → Nat) (c s : Nat) : Nat := if a s = c then b s else a s
def sw_ok (a b f : Nat → Nat) (c s : Nat) : Prop := 0 < f s ∧ (a s = c ∨ b s = c) ∧ sw_af a (sw_lf (sw_dn f s)) (sw_rd a b (sw_lf (sw_dn f s)) (2 ^ sw_ot a b c s) 6) 10 = true
theorem sw_lf_lt (f : Nat → Nat) : sw_lf f < 1024 := sw_ms_lt _
theorem sw_tw_lt (f : Nat → Nat) : sw_tw f < 1024 := sw_ms_lt _
theorem sw_lf_bit {f : Nat → Nat} {s : Nat} (hs : s < 10) : (sw_lf f).testBit s = decide (0 < f s) := by
  unfold sw_lf
  rw [sw_ms_bit, decide_eq_true hs]; rfl
theorem sw_tw_bit {f : Nat → Nat} {s : Nat} (hs : s < 10) : (sw_tw f).testBit s = decide (1 < f s) := by
  unfold sw_tw
  rw [sw_ms_bit, decide_eq_true hs]; rfl
theorem sw_ot6 {a b : Nat → Nat} (hC : sw_C a b) (c s : Nat) : sw_ot a b c s < 6 := by
  unfold sw_ot
  split
  · exact hC.2 s
  · exact hC.1 s
theorem sw_lf_t {f : Nat → Nat} {s : Nat} (hs : s < 10) (h : (sw_tw f).testBit s = true) : sw_lf (sw_dn f s) = sw_lf f := by
  rw [sw_tw_bit hs, decide_eq_true_eq] at h
  apply sw_ext (sw_lf_lt _) (sw_lf_lt _)
  intro i hi
  rw [sw_lf_bit hi, sw_lf_bit hi]
  apply decide_eq_decide.mpr
  unfold sw_dn sw_up
  split
  · rename_i e; rw [e]; omega
  · exact Iff.rfl
theorem sw_lf_f {f : Nat → Nat} {s : Nat} (hs : s < 10) (h : (sw_tw f).testBit s = false) : sw_lf (sw_dn f s) = sw_clr (sw_lf f) s := by
  rw [sw_tw_bit hs, decide_eq_false_iff_not] at h
  apply sw_ext (sw_lf_lt _) (sw_clr_lt (sw_lf_lt _))
  intro i hi
  rw [sw_clr_bit (sw_lf_lt _), sw_lf_bit hi, sw_lf_bit hi]
  unfold sw_dn sw_up
  by_cases e : i = s
  · subst e
    rw [if_pos rfl, decide_eq_false (by omega)]
    simp
  · rw [if_neg e, decide_eq_false (show ¬ s = i from fun z => e z.symm)]
    simp
theorem sw_tw_dn {f : Nat → Nat} {s : Nat} (hf : f s ≤ 2) : sw_tw (sw_dn f s) = sw_clr (sw_tw f) s := by
  apply sw_ext (sw_tw_lt _) (sw_clr_lt (sw_tw_lt _))
  intro i hi
  rw [sw_clr_bit (sw_tw_lt _), sw_tw_bit hi, sw_tw_bit hi]
  unfold sw_dn sw_up
  by_cases e : i = s
  · subst e
    rw [if_pos rfl, decide_eq_false (by omega)]
    simp
  · rw [if_neg e, decide_eq_false (show ¬ s = i from fun z => e z.symm)]
    simp
theorem sw_dn_2 {f : Nat → Nat} (s : Nat) (hf : ∀ s, s < 10 → f s ≤ 2) : ∀ t, t < 10 → sw_dn f s t ≤ 2 := by
  intro t ht
  unfold sw_dn sw_up
  have := hf t ht
  split
  · rename_i e; rw [← e]; omega
  · exact this
theorem sw_dn_back {f : Nat → Nat} {s : Nat} (h : 0 < f s) : sw_up (sw_dn f s) s (f s - 1 + 1) = f := by
  funext i
  unfold sw_dn sw_up
  split
  · rename_i e; rw [e]; omega
  · rfl
section
variable {P : Int32} {a b f : Nat → Nat} {A B L D T N : Nat → Int32} {c : Nat}
theorem sw_xea {post : Int32 → Prop} {i : Nat} (hC : sw_C a b) (hc : c < 6) (hi : i < 10) (h1 : a i = c ∨ b i = c → post 1) (h0 : ¬ (a i = c ∨ b i = c) → post 0) : wpX_endsAt post (P, sw_na a, sw_na b, L, D) (nI i) (nI c) := by
  have ha := hC.1 i
  have hb := hC.2 i
  refine ⟨vp_in_nI hi (by decide), ?_⟩
  rw [sw_at a (by omega), sw_at b (by omega)]
  by_cases e1 : a i = c
  · exact br_t (by rw [e1]) (h1 (Or.inl e1))
  · refine br_f (sw_ne (by omega) (by omega) e1) ⟨vp_in_nI hi (by decide), ?_⟩
    by_cases e2 : b i = c
    · exact br_t (by rw [e2]) (h1 (Or.inr e2))
    · exact br_f (sw_ne (by omega) (by omega) e2) (h0 (fun z => z.elim e1 e2))
theorem sw_xot {post : Int32 → Prop} {i : Nat} (hC : sw_C a b) (hc : c < 6) (hi : i < 10) (h : post (nI (sw_ot a b c i))) : wpX_otherEnd post (P, sw_na a, sw_na b, L, D) (nI i) (nI c) := by
  have ha := hC.1 i
  refine ⟨vp_in_nI hi (by decide), ?_⟩
  rw [sw_at a (by omega), sw_at b (by omega)]
  unfold sw_ot at h
  by_cases e1 : a i = c
  · rw [if_pos e1] at h
    exact br_t (by rw [e1]) ⟨vp_in_nI hi (by decide), h⟩
  · rw [if_neg e1] at h
    exact br_f (sw_ne (by omega) (by omega) e1) ⟨vp_in_nI hi (by decide), h⟩
theorem sw_xla {post : Int32 → Prop} {u : SX} {i : Nat} (hi : i < 10) (h : post (nI (sw_lf (sw_dn f i)))) : wpX_leftAfter post u (nI i) (nI (sw_lf f)) (nI (sw_tw f)) := by
  obtain ⟨P, A, B, L, D⟩ := u
  have l1 := sw_lf_lt f
  have l2 := sw_tw_lt f
  unfold wpX_leftAfter
  dsimp only
  refine sw_xcont (by omega) (by omega) (fun hb => br_f (by decide) ?_) (fun hb => br_t rfl ?_)
  · rw [sw_lf_t hi hb] at h
    exact h
  · rw [sw_lf_f hi hb] at h
    rw [sw_clrI l1 hi]
    exact h
theorem sw_xstep {post : Int32 → Prop} (hC : sw_C a b) (hc : c < 6) (h : ∀ s, s < 10 → sw_ok a b f c s → (∀ j, j < s → ¬ sw_ok a b f c j) → post (nI s)) (h0 : (∀ j, j < 10 → ¬ sw_ok a b f c j) → post (-1)) : wpX_leastStep post (P, sw_na a, sw_na b, L, D) (nI c) (nI (sw_lf f)) (nI (sw_tw f)) := by
  have l1 := sw_lf_lt f
  refine loop_0 (fun n i (_ : Unit) => wX_leastStep_3 post (nI c) (nI (sw_lf f)) (nI (sw_tw f)) P (sw_na a) (sw_na b) L D n (nI i)) (fun i _ => ∀ j, j < i → ¬ sw_ok a b f c j) 10 () (fun j hj => absurd hj (Nat.not_lt_zero j)) ?_ ?_
  · intro n _ hs
    exact br_t (by decide) (h0 hs)
  · intro n i _ hi hs hn
    have skip : ¬ sw_ok a b f c i → ∀ z, z = nI i + 1 → wX_leastStep_3 post (nI c) (nI (sw_lf f)) (nI (sw_tw f)) P (sw_na a) (sw_na b) L D n z := by
      intro q z ez
      rw [ez, nI_1]
      refine hn () ?_
      intro j hj
      rcases Nat.lt_or_ge j i with w | w
      · exact hs j w
      · obtain rfl : j = i := by omega
        exact q
    refine br_f (nI_ge (b := 10) hi (by decide)) ?_
    refine sw_xcont (by omega) (by omega) (fun hb => br_f (by decide) ?_) (fun hb => br_t rfl (skip ?_))
    · rw [sw_lf_bit hi, decide_eq_true_eq] at hb
      refine sw_xea hC hc hi (fun e => br_f (by decide) ?_) (fun e => br_t rfl (skip (fun q => e q.2.1)))
      refine sw_xot hC hc hi (sw_xla hi (sw_xwalk hC (sw_lf_lt _) (sw_ot6 hC c i) ?_))
      by_cases w : sw_af a (sw_lf (sw_dn f i)) (sw_rd a b (sw_lf (sw_dn f i)) (2 ^ sw_ot a b c i) 6) 10 = true
      · rw [if_pos w]
        exact br_f (by decide) (h i hi ⟨hb, e, w⟩ hs)
      · rw [if_neg w]
        exact br_t rfl (skip (fun q => w q.2.2))
    · rw [sw_lf_bit hi, decide_eq_false_iff_not] at hb
      exact fun q => hb q.1
theorem sw_y72 {post : Int32 → SY → Prop} {J2 : Int32 → (Nat → Int32) → (Nat → Int32) → (Nat → Int32) → (Nat → Int32) → (Nat → Int32) → (Nat → Int32) → Prop} {x1 : Int32} {i : Nat} (hC : sw_C a b) (hf : ∀ s, s < 10 → f s ≤ 2) (hi : i < 10) (h0 : 0 < f i) (h1 : sw_af a (sw_lf (sw_dn f i)) (sw_rd a b (sw_lf (sw_dn f i)) (2 ^ sw_ot a b c i) 6) 10 = true → post (nI i) (T, sw_na a, sw_na b, L, sw_na (sw_dn f i), N)) (h2 : ¬ sw_af a (sw_lf (sw_dn f i)) (sw_rd a b (sw_lf (sw_dn f i)) (2 ^ sw_ot a b c i) 6) 10 = true → J2 (nI (i + 1)) T (sw_na a) (sw_na b) L (sw_na f) N) : wY_nextStreet_72 post J2 x1 (nI i) (nI (sw_ot a b c i)) T (sw_na a) (sw_na b) L (sw_na (sw_dn f i)) N := by
  unfold wY_nextStreet_72
  refine sw_yrest (fun s hs => Nat.lt_of_le_of_lt (sw_dn_2 i hf s hs) (by decide)) ?_
  refine sw_yallFrom hC (sw_lf_lt _) (sw_ot6 hC c i) ?_
  by_cases w : sw_af a (sw_lf (sw_dn f i)) (sw_rd a b (sw_lf (sw_dn f i)) (2 ^ sw_ot a b c i) 6) 10 = true
  · have w' := w
    unfold sw_lf at w'
    rw [if_pos w']
    exact br_f (by decide) (h1 w)
  · have w' := w
    unfold sw_lf at w'
    rw [if_neg w']
    refine br_t rfl ⟨vp_in_nI hi (by decide), vp_in_nI hi (by decide), ?_⟩
    intro y ey z ez
    rw [sw_at _ (by omega), nI_1, sw_upd _ (by omega), show sw_dn f i i = f i - 1 from if_pos rfl, sw_dn_back h0] at ey
    rw [ey, ez, nI_1]
    exact h2 w
theorem sw_y37 {post : Int32 → SY → Prop} {J2 : Int32 → (Nat → Int32) → (Nat → Int32) → (Nat → Int32) → (Nat → Int32) → (Nat → Int32) → (Nat → Int32) → Prop} {i : Nat} (hC : sw_C a b) (hf : ∀ s, s < 10 → f s ≤ 2) (hc : c < 6) (hi : i < 10) (h0 : 0 < f i) (h1 : sw_af a (sw_lf (sw_dn f i)) (sw_rd a b (sw_lf (sw_dn f i)) (2 ^ sw_ot a b c i) 6) 10 = true → post (nI i) (T, sw_na a, sw_na b, L, sw_na (sw_dn f i), N)) (h2 : ¬ sw_af a (sw_lf (sw_dn f i)) (sw_rd a b (sw_lf (sw_dn f i)) (2 ^ sw_ot a b c i) 6) 10 = true → J2 (nI (i + 1)) T (sw_na a) (sw_na b) L (sw_na f) N) : wY_nextStreet_37 post J2 (nI c) (nI i) T (sw_na a) (sw_na b) L (sw_na f) N := by
  have ha := hC.1 i
  refine ⟨vp_in_nI hi (by decide), vp_in_nI hi (by decide), ?_⟩
  intro y ey
  have ed : nI (f i) - 1 = nI (f i - 1) := pk_sub (b := 1) h0
  rw [sw_at _ (by omega), ed, sw_upd _ (by omega)] at ey
  have ey : y = sw_na (sw_dn f i) := ey
  subst ey
  rw [sw_at a (by omega), sw_at b (by omega)]
  refine ⟨vp_in_nI hi (by decide), ?_⟩
  have q := sw_y72 (post := post) (J2 := J2) (x1 := nI c) (c := c) (T := T) (N := N) (L := L) hC hf hi h0 h1 h2
  by_cases e1 : a i = c
  · rw [show sw_ot a b c i = b i from if_pos e1] at q
    exact br_t (by rw [e1]) ⟨vp_in_nI hi (by decide), q⟩
  · rw [show sw_ot a b c i = a i from if_neg e1] at q
    exact br_f (sw_ne (by omega) (by omega) e1) ⟨vp_in_nI hi (by decide), q⟩
theorem sw_ystep {post : Int32 → SY → Prop} (hC : sw_C a b) (hf : ∀ s, s < 10 → f s ≤ 2) (hc : c < 6) (h : ∀ s, s < 10 → sw_ok a b f c s → (∀ j, j < s → ¬ sw_ok a b f c j) → post (nI s) (T, sw_na a, sw_na b, L, sw_na (sw_dn f s), N)) (h0 : (∀ j, j < 10 → ¬ sw_ok a b f c j) → post (-1) (T, sw_na a, sw_na b, L, sw_na f, N)) : wpY_nextStreet post (T, sw_na a, sw_na b, L, sw_na f, N) (nI c) := by
  refine loop_0 (fun n i (_ : Unit) => wY_nextStreet_2 post (nI c) n (nI i) T (sw_na a) (sw_na b) L (sw_na f) N) (fun i _ => ∀ j, j < i → ¬ sw_ok a b f c j) 10 () (fun j hj => absurd hj (Nat.not_lt_zero j)) ?_ ?_
  · intro n _ hs
    exact br_t (by decide) (h0 hs)
  · intro n i _ hi hs hn
    have ha := hC.1 i
    have hb := hC.2 i
    have skip' : ¬ sw_ok a b f c i → wY_nextStreet_2 post (nI c) n (nI (i + 1)) T (sw_na a) (sw_na b) L (sw_na f) N := by
      intro q
      refine hn () ?_
      intro j hj
      rcases Nat.lt_or_ge j i with w | w
      · exact hs j w
      · obtain rfl : j = i := by omega
        exact q
    have skip : ¬ sw_ok a b f c i → ∀ z, z = nI i + 1 → wY_nextStreet_2 post (nI c) n z T (sw_na a) (sw_na b) L (sw_na f) N := by
      intro q z ez
      rw [ez, nI_1]
      exact skip' q
    refine br_f (nI_ge (b := 10) hi (by decide)) ⟨vp_in_nI hi (by decide), ?_⟩
    rw [sw_at f (by omega), sw_at a (by omega), sw_at b (by omega)]
    have h2 := hf i hi
    by_cases c0 : 0 < f i
    · refine br_f (nI_nle c0 (by omega)) ⟨vp_in_nI hi (by decide), ?_⟩
      by_cases e1 : a i = c
      · refine br_t (by rw [e1]) ?_
        exact sw_y37 hC hf hc hi c0 (fun w => h i hi ⟨c0, Or.inl e1, w⟩ hs) (fun w => skip' (fun q => w q.2.2))
      · refine br_f (sw_ne (by omega) (by omega) e1) ⟨vp_in_nI hi (by decide), ?_⟩
        by_cases e2 : b i = c
        · refine br_t (by rw [e2]) ?_
          exact sw_y37 hC hf hc hi c0 (fun w => h i hi ⟨c0, Or.inr e2, w⟩ hs) (fun w => skip' (fun q => w q.2.2))
        · exact br_f (sw_ne (by omega) (by omega) e2) (skip (fun q => q.2.1.elim e1 e2))
    · refine br_t ?_ (skip (fun q => c0 q.1))
      rw [show f i = 0 by omega]
      decide
end
