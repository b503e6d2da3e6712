/-! walkAt -/
theorem sw_find {Q : Nat → Prop} : ∀ k, (∀ j, j < k → ¬ Q j) ∨ ∃ s, s < k ∧ Q s ∧ ∀ j, j < s → ¬ Q j
  | 0 => Or.inl (fun j hj => absurd hj (Nat.not_lt_zero j))
  | k + 1 => by
    rcases sw_find (Q := Q) k with h | ⟨s, hs, hQ, hm⟩
    · by_cases q : Q k
      · exact Or.inr ⟨k, by omega, q, h⟩
      · left
        intro j hj
        rcases Nat.lt_or_ge j k with w | w
        · exact h j w
        · obtain rfl : j = k := by omega
          exact q
    · exact Or.inr ⟨s, by omega, hQ, hm⟩
theorem sw_least_u {Q : Nat → Prop} {s t : Nat} (h1 : Q s) (m1 : ∀ j, j < s → ¬ Q j) (h2 : Q t) (m2 : ∀ j, j < t → ¬ Q j) : t = s := by
  rcases Nat.lt_trichotomy t s with q | q | q
  · exact absurd h2 (m1 t q)
  · exact q
  · exact absurd h1 (m2 s q)
section
variable {P : Int32} {a b : Nat → Nat} {L D T N : Nat → Int32}
/-- X and Y go the same walk -/
theorem sw_lock (hC : sw_C a b) {k : Nat} (hk : k < 20) : ∀ d i, i + d = k → ∀ (f : Nat → Nat) (c : Nat), (∀ s, s < 10 → f s ≤ 2) → c < 6 → ∃ r : Int32, (∀ (post : Int32 → Prop) (x7 : Int32), post r → wX_streetOfFirstWalk_18 post (nI k) P (sw_na a) (sw_na b) L D (d + 2) (nI (sw_lf f)) (nI (sw_tw f)) (nI c) x7 (nI i)) ∧ (∀ post : Int32 → SY → Prop, (∀ F', post r (T, sw_na a, sw_na b, L, F', N)) → wY_walkAt_81 post (nI k) (d + 1) (nI c) (nI i) T (sw_na a) (sw_na b) L (sw_na f) N) := by
  intro d
  induction d with
  | zero =>
    intro i hi f c hf hc
    obtain rfl : i = k := by omega
    rcases sw_find (Q := sw_ok a b f c) 10 with h | ⟨s, hs, hok, hmin⟩
    · refine ⟨-1, fun post x7 hp => ?_, fun post hp => ?_⟩
      · refine br_f (nI_nlt (Nat.le_refl _) (by omega)) (br_f (nI_ge (b := 20) hk (by decide)) ?_)
        refine sw_xstep hC hc (fun t ht hok _ => absurd hok (h t ht)) (fun _ => br_t rfl hp)
      · refine br_f (nI_nlt (Nat.le_refl _) (by omega)) ?_
        refine sw_ystep hC hf hc (fun t ht hok _ => absurd hok (h t ht)) (fun _ => ?_)
        exact br_t (by decide) (hp _)
    · refine ⟨nI s, fun post x7 hp => ?_, fun post hp => ?_⟩
      · refine br_f (nI_nlt (Nat.le_refl _) (by omega)) (br_f (nI_ge (b := 20) hk (by decide)) ?_)
        refine sw_xstep hC hc (fun t ht hok' hmin' => ?_) (fun z => absurd hok (z s hs))
        obtain rfl := sw_least_u hok hmin hok' hmin'
        refine br_f (sw_nm1 (by omega)) ?_
        refine sw_xot hC hc ht (sw_xla ht ?_)
        intro y ey z ez
        rw [ez, nI_1]
        exact br_t (nI_lt (by omega) (by omega)) hp
      · refine br_f (nI_nlt (Nat.le_refl _) (by omega)) ?_
        refine sw_ystep hC hf hc (fun t ht hok' hmin' => ?_) (fun z => absurd hok (z s hs))
        obtain rfl := sw_least_u hok hmin hok' hmin'
        exact br_f (nI_pos (by omega)) (br_t rfl (hp _))
  | succ d ih =>
    intro i hi f c hf hc
    rcases sw_find (Q := sw_ok a b f c) 10 with h | ⟨s, hs, hok, hmin⟩
    · refine ⟨-1, fun post x7 hp => ?_, fun post hp => ?_⟩
      · refine br_f (nI_nlt (by omega) (by omega)) (br_f (nI_ge (b := 20) (by omega) (by decide)) ?_)
        refine sw_xstep hC hc (fun t ht hok _ => absurd hok (h t ht)) (fun _ => br_t rfl hp)
      · refine br_f (nI_nlt (by omega) (by omega)) ?_
        refine sw_ystep hC hf hc (fun t ht hok _ => absurd hok (h t ht)) (fun _ => ?_)
        exact br_t (by decide) (hp _)
    · obtain ⟨r, hX, hY⟩ := ih (i + 1) (by omega) (sw_dn f s) (sw_ot a b c s) (sw_dn_2 s hf) (sw_ot6 hC c s)
      refine ⟨r, fun post x7 hp => ?_, fun post hp => ?_⟩
      · refine br_f (nI_nlt (by omega) (by omega)) (br_f (nI_ge (b := 20) (by omega) (by decide)) ?_)
        refine sw_xstep hC hc (fun t ht hok' hmin' => ?_) (fun z => absurd hok (z s hs))
        obtain rfl := sw_least_u hok hmin hok' hmin'
        refine br_f (sw_nm1 (by omega)) ?_
        refine sw_xot hC hc ht (sw_xla ht ?_)
        intro y ey z ez
        rw [sw_clrI (sw_tw_lt f) ht, ← sw_tw_dn (hf _ ht)] at ey
        rw [ez, nI_1, ey]
        exact hX post _ hp
      · refine br_f (nI_nlt (by omega) (by omega)) ?_
        refine sw_ystep hC hf hc (fun t ht hok' hmin' => ?_) (fun z => absurd hok (z s hs))
        obtain rfl := sw_least_u hok hmin hok' hmin'
        have ha := hC.1 t
        refine br_f (nI_pos (by omega)) (br_f (sw_ne (by omega) (by omega) (by omega)) ⟨vp_in_nI ht (by decide), ?_⟩)
        rw [sw_at a (by omega), sw_at b (by omega)]
        have q := hY post hp
        by_cases e1 : a t = c
        · rw [show sw_ot a b c t = b t from if_pos e1] at q
          refine br_t (by rw [e1]) ⟨vp_in_nI ht (by decide), ?_⟩
          intro y ey z ez
          rw [ez, nI_1, ey]
          exact q
        · rw [show sw_ot a b c t = a t from if_neg e1] at q
          refine br_f (sw_ne (by omega) (by omega) e1) ⟨vp_in_nI ht (by decide), ?_⟩
          intro y ey z ez
          rw [ez, nI_1, ey]
          exact q
theorem sw_sum_dn {f : Nat → Nat} {s : Nat} (h : 0 < f s) : ∀ k, s < k → sw_sum (sw_dn f s) k + 1 ≤ sw_sum f k := by
  intro k hk
  have le : ∀ c, sw_dn f s c ≤ f c := by
    intro c
    unfold sw_dn sw_up
    split
    · rename_i e; rw [e]; omega
    · exact Nat.le_refl _
  exact sw_sum_lt le (i := s) (by rw [show sw_dn f s s = f s - 1 from if_pos rfl]; omega) k hk
theorem sw_sum_0 {f : Nat → Nat} {s : Nat} (h : 0 < f s) {k : Nat} (hk : s < k) : 0 < sw_sum f k := by
  have := sw_sum_dn h k hk
  omega
/-- a walk that is over answers -1 -/
theorem sw_over (hC : sw_C a b) {k : Nat} (hk : k < 20) {post : Int32 → SY → Prop} (hp : ∀ F', post (-1) (T, sw_na a, sw_na b, L, F', N)) : ∀ d i, i + d = k → ∀ (f : Nat → Nat) (c : Nat), (∀ s, s < 10 → f s ≤ 2) → c < 6 → (sw_sum f 10 ≤ d ∨ ∀ j, j < 10 → ¬ sw_ok a b f c j) → wY_walkAt_81 post (nI k) (d + 1) (nI c) (nI i) T (sw_na a) (sw_na b) L (sw_na f) N := by
  intro d
  induction d with
  | zero =>
    intro i hi f c hf hc hsum
    refine br_f (nI_nlt (by omega) (by omega)) ?_
    refine sw_ystep hC hf hc (fun t ht hok _ => ?_) (fun _ => br_t (by decide) (hp _))
    rcases hsum with q | q
    · have := sw_sum_0 hok.1 ht
      omega
    · exact absurd hok (q t ht)
  | succ d ih =>
    intro i hi f c hf hc hsum
    refine br_f (nI_nlt (by omega) (by omega)) ?_
    refine sw_ystep hC hf hc (fun t ht hok _ => ?_) (fun _ => br_t (by decide) (hp _))
    rcases hsum with q | q
    · have w := sw_sum_dn hok.1 10 ht
      have ha := hC.1 t
      have qq := ih (i + 1) (by omega) (sw_dn f t) (sw_ot a b c t) (sw_dn_2 t hf) (sw_ot6 hC c t) (Or.inl (by omega))
      refine br_f (nI_pos (by omega)) (br_f (sw_ne (by omega) (by omega) (by omega)) ⟨vp_in_nI ht (by decide), ?_⟩)
      rw [sw_at a (by omega), sw_at b (by omega)]
      by_cases e1 : a t = c
      · rw [show sw_ot a b c t = b t from if_pos e1] at qq
        refine br_t (by rw [e1]) ⟨vp_in_nI ht (by decide), ?_⟩
        intro y ey z ez
        rw [ez, nI_1, ey]
        exact qq
      · rw [show sw_ot a b c t = a t from if_neg e1] at qq
        refine br_f (sw_ne (by omega) (by omega) e1) ⟨vp_in_nI ht (by decide), ?_⟩
        intro y ey z ez
        rw [ez, nI_1, ey]
        exact qq
    · exact absurd hok (q t ht)
end
theorem sw_ofI (F : Nat → Int32) : ∃ f, F = sw_na f := ⟨fun s => (F s).toBitVec.toNat, by
  funext s
  apply Int32.toBitVec_inj.mp
  show _ = BitVec.ofNat 32 _
  simp⟩
section
variable {a b l : Nat → Nat} {D F N : Nat → Int32} {p m : Nat} {v1 v2 : Int32}
theorem sw_ywa_neg {Q : Int32 → SY → Prop} (G : sw_G p a b l) (hm : m < 1024) (hb : sw_best (sw_F a b p 0 p) l (nI m)) (hc : sw_con a b p) (h : ¬ sw_isC v1 ∨ ¬ ∃ j, j < 20 ∧ v2 = nI j) (hQ : Q (-1) (sw_na (sw_tb p), sw_na a, sw_na b, sw_na l, F, N)) : wpY_walkAt Q (sw_na (sw_tb p), sw_na a, sw_na b, sw_na l, F, N) v1 v2 := by
  unfold wpY_walkAt
  dsimp only
  refine sw_ystreets G.1 (sw_yset G (fun r8 h8 => sw_ywl G (fun r15 h15 => ?_)))
  refine br_c (fun _ => hQ) (fun _ => ?_)
  refine sw_yisC (fun c1 => br_f (by decide) ?_) (fun c1 => br_t rfl hQ)
  rcases h with h | h
  · exact absurd c1 h
  · refine br_c (fun _ => hQ) (fun z => br_c (fun w => ?_) (fun _ => hQ))
    rcases pk_ix v2 (n := 20) (by decide) with q | q | q
    · exact absurd q z
    · exact (Int32.lt_irrefl (Int32.lt_of_lt_of_le w q)).elim
    · exact absurd q h
def sw_fi (f0 : Nat → Nat) (p m i : Nat) : Nat → Nat := fun s => if s < i then sw_tb p s + sw_tb m s else f0 s
theorem sw_ywa_pos {f0 : Nat → Nat} {Q : Int32 → SY → Prop} {c j : Nat} (G : sw_G p a b l) (hm : m < 1024) (hb : sw_best (sw_F a b p 0 p) l (nI m)) (hcon : sw_con a b p) (hc : c < 6) (hj : j < 20) (h : wY_walkAt_81 Q (nI j) (j + 1) (nI c) (nI 0) (sw_na (sw_tb p)) (sw_na a) (sw_na b) (sw_na l) (sw_na (sw_fi f0 p m 10)) N) : wpY_walkAt Q (sw_na (sw_tb p), sw_na a, sw_na b, sw_na l, sw_na f0, N) (nI c) (nI j) := by
  unfold wpY_walkAt
  dsimp only
  refine sw_ystreets G.1 (sw_yset G (fun r8 h8 => sw_ywl G (fun r15 h15 => ?_)))
  have e8 := sw_best_u hb h8
  subst e8
  have hlp := sw_len_le G.2.2.1 p 10
  have hlm := sw_len_le G.2.2.1 m 10
  have e15 := sw_WL_u ⟨_, hb, Or.inr ⟨hcon, m, hm, rfl, rfl⟩⟩ h15
  subst e15
  have hp := G.1
  refine br_f (nI_pos (by omega)) ?_
  refine sw_yisC (fun c1 => br_f (by decide) ?_) (fun c1 => absurd ⟨c, hc, rfl⟩ c1)
  refine br_f (nI_pos (by omega)) (br_t (nI_lt (b := 20) hj (by decide)) ?_)
  refine loop_0 (fun n i F => wY_walkAt_41 Q (nI c) (nI j) (nI p) (nI m) n (nI i) (sw_na (sw_tb p)) (sw_na a) (sw_na b) (sw_na l) F N) (fun i F => F = sw_na (sw_fi f0 p m i)) 10 _ ?_ ?_ ?_
  · congr 1
  · intro n F hF
    subst hF
    exact br_t (by decide) ⟨_, h⟩
  · intro n i F hi hF hn
    subst hF
    refine br_f (nI_ge (b := 10) hi (by decide)) ⟨vp_in_nI hi (by decide), ?_⟩
    intro y ey z ez
    rw [sw_bitI (by omega) (by omega), sw_bitI (by omega) (by omega), nI_add, sw_upd _ (by omega)] at ey
    rw [ez, nI_1, ey]
    refine hn _ ?_
    congr 1
    funext s
    unfold sw_up sw_fi
    by_cases e : s = i
    · subst e
      rw [if_pos (show s = s from rfl), if_pos (show s < s + 1 by omega)]; rfl
    · rw [if_neg e]
      by_cases w : s < i
      · rw [if_pos w, if_pos (by omega)]
      · rw [if_neg w, if_neg (by omega)]
end
theorem sw_sz_sum (x : Nat) : ∀ k, sw_sum (sw_tb x) k = sw_sz x k
  | 0 => rfl
  | k + 1 => by rw [sw_sum, sw_sz, sw_sz_sum x k]; rfl
theorem sw_sum_add {f g h : Nat → Nat} : ∀ k, (∀ s, s < k → f s = g s + h s) → sw_sum f k = sw_sum g k + sw_sum h k
  | 0, _ => rfl
  | k + 1, q => by
    rw [sw_sum, sw_sum, sw_sum, sw_sum_add k (fun s hs => q s (by omega)), q k (by omega)]
    omega
theorem sw_tb_1 (x s : Nat) : sw_tb x s ≤ 1 := by
  unfold sw_tb
  split <;> omega
theorem sw_tb_pos (x s : Nat) : 0 < sw_tb x s ↔ x.testBit s = true := by
  unfold sw_tb
  split
  · rename_i h; simp [h]
  · rename_i h; simp [h]
theorem i_vc_walkAt {k : Nat} {u : SX} {v : SY} (I : i_Rel k u v) (hk : k + 4 ≤ 2048) (v1 : Int32) (v2 : Int32) : wpX_walkAt (fun r => wpY_walkAt (fun r' v' => r' = r ∧ i_Rel (k + 4) u v') v v1 v2) u v1 v2 := by
  obtain ⟨p, a, b, l, D, F, N, rfl, rfl, G⟩ := I
  obtain ⟨hp, hC, hl, hne⟩ := id G
  obtain ⟨f0, rfl⟩ := sw_ofI F
  unfold wpX_walkAt
  dsimp only
  refine sw_xcorn hC hp ?_
  have hK := sw_co64 hC p 10
  refine sw_xwl G (fun r hr => ?_)
  obtain ⟨r0, hb, hcase⟩ := id hr
  rcases hcase with ⟨rfl, _⟩ | ⟨hcon, m, hm, rfl, rfl⟩
  · refine br_t rfl ?_
    unfold wpY_walkAt
    dsimp only
    refine sw_ystreets hp (sw_yset G (fun r8 h8 => sw_ywl G (fun r15 h15 => ?_)))
    have e := sw_WL_u hr h15
    subst e
    exact br_t (by decide) ⟨rfl, sw_rel G⟩
  · have hlp := sw_len_le hl p 10
    have hlm := sw_len_le hl m 10
    have s1 := sw_sz_le p 10
    have s2 := sw_sz_le m 10
    have hsub : sw_sub m p := by
      rcases id hb with ⟨e, _⟩ | ⟨m', hm', e, hF, _⟩
      · exact absurd e (sw_nm1 (by omega))
      · rw [nI_eq (by omega) (by omega)] at e
        subst e
        exact hF.1
    refine br_f (sw_nm1 (by omega)) ?_
    refine sw_xisC (fun c1 => br_f (by decide) ?_) (fun c1 => br_t rfl (sw_ywa_neg G hm hb hcon (Or.inl c1) ⟨rfl, sw_rel G⟩))
    obtain ⟨c, hc, rfl⟩ := id c1
    have hfi : ∀ s, s < 10 → sw_fi f0 p m 10 s = sw_tb p s + sw_tb m s := fun s hs => if_pos hs
    have f2 : ∀ f : Nat → Nat, (∀ s, s < 10 → f s = sw_tb p s + sw_tb m s) → ∀ s, s < 10 → f s ≤ 2 := by
      intro f hf s hs
      have := hf s hs
      have := sw_tb_1 p s
      have := sw_tb_1 m s
      omega
    refine sw_xcont (by omega) (by omega) (fun hbit => br_f (by decide) ?_) (fun hbit => br_t rfl ?_)
    · refine sw_xbest (nd := 0) hC hl hp (by decide) hp (fun r28 h28 => ?_)
      have e28 := sw_best_u hb h28
      subst e28
      rcases pk_ix v2 (n := 20) (by decide) with q | q | ⟨j, hj, rfl⟩
      · refine br_t q (sw_ywa_neg G hm hb hcon (Or.inr ?_) ⟨rfl, sw_rel G⟩)
        rintro ⟨j, hj, rfl⟩
        exact absurd q (nI_pos (by omega))
      · have hno : ¬ ∃ j, j < 20 ∧ v2 = nI j := by
          rintro ⟨j, hj, rfl⟩
          exact absurd q (nI_ge hj (by decide))
        refine br_c (fun _ => sw_ywa_neg G hm hb hcon (Or.inr hno) ⟨rfl, sw_rel G⟩) (fun _ => ?_)
        refine sw_xsz hp (sw_xsz hm ?_)
        rw [nI_add]
        refine br_f ?_ (sw_ywa_neg G hm hb hcon (Or.inr hno) ⟨rfl, sw_rel G⟩)
        intro w
        have w2 := Int32.lt_of_le_of_lt q w
        exact absurd w2 (nI_nlt (by omega) (by decide))
      · refine br_f (nI_pos (by omega)) ?_
        refine sw_xsz hp (sw_xsz hm ?_)
        rw [nI_add]
        by_cases hjt : j < sw_sz p 10 + sw_sz m 10
        · refine br_t (nI_lt hjt (by omega)) ?_
          have elf : ∀ f : Nat → Nat, (∀ s, s < 10 → f s = sw_tb p s + sw_tb m s) → sw_lf f = p := by
            intro f hf
            apply sw_ext (sw_lf_lt _) hp
            intro i hi
            rw [sw_lf_bit hi, hf i hi]
            have q1 := sw_tb_pos p i
            have q2 := sw_tb_pos m i
            have q3 := hsub i
            cases e : p.testBit i with
            | true => rw [e] at q1; exact decide_eq_true (by have := q1.mpr rfl; omega)
            | false =>
              rw [e] at q1 q3
              apply decide_eq_false
              intro z
              have z1 : ¬ 0 < sw_tb p i := fun w => absurd (q1.mp w) (by decide)
              have z2 : 0 < sw_tb m i := by omega
              exact absurd (q3 (q2.mp z2)) (by decide)
          have etw : ∀ f : Nat → Nat, (∀ s, s < 10 → f s = sw_tb p s + sw_tb m s) → sw_tw f = m := by
            intro f hf
            apply sw_ext (sw_tw_lt _) hm
            intro i hi
            rw [sw_tw_bit hi, hf i hi]
            have q1 := sw_tb_pos p i
            have q2 := sw_tb_pos m i
            have q3 := hsub i
            have t1 := sw_tb_1 p i
            have t2 := sw_tb_1 m i
            cases e : m.testBit i with
            | true =>
              rw [e] at q2
              have z1 := q1.mpr (q3 e)
              have z2 := q2.mpr rfl
              exact decide_eq_true (by omega)
            | false =>
              rw [e] at q2
              have z2 : ¬ 0 < sw_tb m i := fun w => absurd (q2.mp w) (by decide)
              exact decide_eq_false (by omega)
          obtain ⟨r, hX, hY⟩ := sw_lock (P := nI p) (L := sw_na l) (D := D) (T := sw_na (sw_tb p)) (N := N) hC hj j 0 (by omega) (sw_fi f0 p m 10) c (f2 _ hfi) hc
          rw [elf _ hfi, etw _ hfi] at hX
          refine ⟨_, hX _ (-1) ?_⟩
          exact sw_ywa_pos G hm hb hcon hc hj (hY _ (fun F' => ⟨rfl, sw_rel G⟩))
        · refine br_f (nI_nlt (by omega) (by omega)) ?_
          refine sw_ywa_pos G hm hb hcon hc hj ?_
          refine sw_over hC hj (fun F' => ⟨rfl, sw_rel G⟩) j 0 (by omega) _ c (f2 _ hfi) hc (Or.inl ?_)
          rw [sw_sum_add 10 hfi, sw_sz_sum, sw_sz_sum]
          omega
    · rcases pk_ix v2 (n := 20) (by decide) with q | q | ⟨j, hj, rfl⟩
      · refine sw_ywa_neg G hm hb hcon (Or.inr ?_) ⟨rfl, sw_rel G⟩
        rintro ⟨j, hj, rfl⟩
        exact absurd q (nI_pos (by omega))
      · refine sw_ywa_neg G hm hb hcon (Or.inr ?_) ⟨rfl, sw_rel G⟩
        rintro ⟨j, hj, rfl⟩
        exact absurd q (nI_ge hj (by decide))
      · refine sw_ywa_pos G hm hb hcon hc hj ?_
        refine sw_over hC hj (fun F' => ⟨rfl, sw_rel G⟩) j 0 (by omega) _ c (f2 _ hfi) hc (Or.inr ?_)
        intro s hs hok
        have hx : p.testBit s = true := by
          cases e : p.testBit s with
          | true => rfl
          | false =>
            have z1 : ¬ 0 < sw_tb p s := fun w => absurd ((sw_tb_pos p s).mp w) (by rw [e]; decide)
            have z2 : ¬ 0 < sw_tb m s := fun w => absurd (hsub s ((sw_tb_pos m s).mp w)) (by rw [e]; decide)
            have := hfi s hs
            have := hok.1
            omega
        have z := (sw_co_bit (a := a) (b := b) (x := p) 10 c).mpr ⟨s, hs, hx, hok.2.1⟩
        rw [hbit] at z
        exact absurd z (by decide)
