/-! extra, bestSet, extraWith, extraWithout, walkLength -/
def sw_EX (Q : Nat → Prop) (l : Nat → Nat) (r : Int32) : Prop := ∃ r0, sw_best Q l r0 ∧ ((r0 = -1 ∧ r = -1) ∨ ∃ m, m < 1024 ∧ r0 = nI m ∧ r = nI (sw_len l m 10))
theorem sw_EX_u {Q : Nat → Prop} {l : Nat → Nat} {r r' : Int32} (h : sw_EX Q l r) (h' : sw_EX Q l r') : r' = r := by
  obtain ⟨r0, hb, h⟩ := h
  obtain ⟨r0', hb', h'⟩ := h'
  have e := sw_best_u hb hb'
  subst e
  rcases h with ⟨e, rfl⟩ | ⟨m, hm, e, rfl⟩
  · rcases h' with ⟨e', rfl⟩ | ⟨m', hm', e', rfl⟩
    · rfl
    · exact absurd (e'.symm.trans e) (sw_nm1 (by omega))
  · rcases h' with ⟨e', rfl⟩ | ⟨m', hm', e', rfl⟩
    · exact absurd (e.symm.trans e') (sw_nm1 (by omega))
    · have q := e'.symm.trans e
      rw [nI_eq (by omega) (by omega)] at q
      rw [q]
theorem sw_F_al {p : Nat} : ∀ s, s < 1024 → (sw_sub s p ↔ sw_sub s p ∧ s &&& 0 = 0) := fun s _ => ⟨fun h => ⟨h, Nat.and_zero s⟩, fun h => h.1⟩
theorem sw_F_wo {p j : Nat} (hp : p < 1024) : ∀ s, s < 1024 → (sw_sub s (sw_clr p j) ↔ sw_sub s p ∧ s &&& 2 ^ j = 0) := by
  intro s hs
  rw [sw_and2]
  constructor
  · intro h
    refine ⟨fun i hi => ?_, ?_⟩
    · have q := h i hi
      rw [sw_clr_bit hp, Bool.and_eq_true] at q
      exact q.1
    · rw [if_neg]
      intro hj
      have q := h j hj
      rw [sw_clr_bit hp] at q
      simp at q
  · rintro ⟨h, hj⟩ i hi
    rw [sw_clr_bit hp, h i hi]
    have e : ¬ j = i := by
      intro e
      subst e
      rw [if_pos hi] at hj
      have := Nat.two_pow_pos j
      omega
    simp [e]
section
variable {post : Int32 → Prop} {a b l : Nat → Nat} {D F N : Nat → Int32} {p nd al nv : Nat}
theorem sw_xex (G : sw_G p a b l) (hnd : nd < 1024) (hal : al < 1024) (h : ∀ r, sw_EX (sw_F a b p nd al) l r → post r) : wpX_bestAmong (fun r_8 => (wpX_lengthOrNone (fun r_14 => (post r_14)) (nI p, sw_na a, sw_na b, sw_na l, D) r_8)) (nI p, sw_na a, sw_na b, sw_na l, D) (nI nd) (nI al) := by
  refine sw_xbest G.2.1 G.2.2.1 G.1 hnd hal ?_
  intro r hr
  rcases id hr with ⟨rfl, _⟩ | ⟨m, hm, rfl, _⟩
  · exact br_t rfl (h _ ⟨_, hr, Or.inl ⟨rfl, rfl⟩⟩)
  · exact br_f (sw_nm1 (by omega)) (sw_xlen hm (h _ ⟨_, hr, Or.inr ⟨m, hm, rfl, rfl⟩⟩))
theorem sw_yex (G : sw_G p a b l) (hnd : nd < 1024) (hal : ∀ s, s < 1024 → (sw_sub s al ↔ sw_sub s p ∧ s &&& nv = 0)) (h : ∀ r, sw_EX (sw_F a b p nd al) l r → post r) : wpY_first (fun r_1 => (((0 ≤ r_1 → (wpY_lengthOf (fun r_9 => (post r_9)) (sw_na (sw_tb p), sw_na a, sw_na b, sw_na l, F, N) r_1)) ∧ (¬ 0 ≤ r_1 → (post (-1)))))) (sw_na (sw_tb p), sw_na a, sw_na b, sw_na l, F, N) (nI nd) (nI nv) := by
  refine sw_yfirst G.2.1 G.2.2.1 G.1 G.2.2.2 hnd hal ?_
  intro r hr
  rcases id hr with ⟨rfl, _⟩ | ⟨m, hm, rfl, _⟩
  · exact br_f (by decide) (h _ ⟨_, hr, Or.inl ⟨rfl, rfl⟩⟩)
  · exact br_t (nI_pos' (by omega)) (sw_ylen hm (h _ ⟨_, hr, Or.inr ⟨m, hm, rfl, rfl⟩⟩))
def sw_WL (a b l : Nat → Nat) (p : Nat) (r : Int32) : Prop := ∃ r0, sw_best (sw_F a b p 0 p) l r0 ∧ ((r = -1 ∧ (r0 = -1 ∨ ¬ sw_con a b p)) ∨ (sw_con a b p ∧ ∃ m, m < 1024 ∧ r0 = nI m ∧ r = nI (sw_len l p 10 + sw_len l m 10)))
theorem sw_WL_u {r r' : Int32} (h : sw_WL a b l p r) (h' : sw_WL a b l p r') : r' = r := by
  obtain ⟨r0, hb, h⟩ := h
  obtain ⟨r0', hb', h'⟩ := h'
  have e := sw_best_u hb hb'
  subst e
  rcases h with ⟨rfl, e⟩ | ⟨c, m, hm, e, rfl⟩
  · rcases h' with ⟨rfl, e'⟩ | ⟨c', m', hm', e', rfl⟩
    · rfl
    · rcases e with e | e
      · exact absurd (e'.symm.trans e) (sw_nm1 (by omega))
      · exact absurd c' e
  · rcases h' with ⟨rfl, e'⟩ | ⟨c', m', hm', e', rfl⟩
    · rcases e' with e' | e'
      · exact absurd (e.symm.trans e') (sw_nm1 (by omega))
      · exact absurd c e'
    · have q := e'.symm.trans e
      rw [nI_eq (by omega) (by omega)] at q
      rw [q]
theorem sw_xwl (G : sw_G p a b l) (h : ∀ r, sw_WL a b l p r → post r) : wpX_walkLength post (nI p, sw_na a, sw_na b, sw_na l, D) := by
  unfold wpX_walkLength
  dsimp only
  refine sw_xbest (nd := 0) G.2.1 G.2.2.1 G.1 (by decide) G.1 ?_
  intro r hr
  rcases id hr with ⟨rfl, _⟩ | ⟨m, hm, rfl, _⟩
  · exact br_t rfl (h _ ⟨_, hr, Or.inl ⟨rfl, Or.inl rfl⟩⟩)
  · refine br_f (sw_nm1 (by omega)) ?_
    refine sw_xconn G.2.1 G.1 (fun c => br_f (by decide) ?_) (fun c => br_t rfl (h _ ⟨_, hr, Or.inl ⟨rfl, Or.inr c⟩⟩))
    refine sw_xlen G.1 (sw_xlen hm ?_)
    rw [nI_add]
    exact h _ ⟨_, hr, Or.inr ⟨c, m, hm, rfl, rfl⟩⟩
theorem sw_yset (G : sw_G p a b l) (h : ∀ r, sw_best (sw_F a b p 0 p) l r → post r) : wpY_bestSet post (sw_na (sw_tb p), sw_na a, sw_na b, sw_na l, F, N) :=
  sw_yfirst (nd := 0) (nv := 0) (post := fun r => post r) G.2.1 G.2.2.1 G.1 G.2.2.2 (by decide) sw_F_al h
theorem sw_ywl (G : sw_G p a b l) (h : ∀ r, sw_WL a b l p r → post r) : wpY_walkLength post (sw_na (sw_tb p), sw_na a, sw_na b, sw_na l, F, N) := by
  unfold wpY_walkLength
  dsimp only
  refine sw_yset G ?_
  intro r hr
  refine sw_ystreets G.1 ?_
  rcases id hr with ⟨rfl, _⟩ | ⟨m, hm, rfl, _⟩
  · exact br_t (by decide) (h _ ⟨_, hr, Or.inl ⟨rfl, Or.inl rfl⟩⟩)
  · refine br_f (nI_pos (by omega)) ?_
    refine sw_yconn G.2.1 G.1 (fun c => br_f (by decide) ?_) (fun c => br_t rfl (h _ ⟨_, hr, Or.inl ⟨rfl, Or.inr c⟩⟩))
    refine sw_ylen G.1 (sw_ylen hm ?_)
    rw [nI_add]
    exact h _ ⟨_, hr, Or.inr ⟨c, m, hm, rfl, rfl⟩⟩
end
theorem i_vc_extra {k : Nat} {u : SX} {v : SY} (I : i_Rel k u v) (hk : k + 4 ≤ 2048) : wpX_extra (fun r => wpY_extra (fun r' => r' = r ∧ i_Rel (k + 4) u v) v) u := by
  obtain ⟨p, a, b, l, D, F, N, rfl, rfl, G⟩ := I
  unfold wpX_extra wpY_extra
  dsimp only
  refine sw_xex (post := fun r => wpY_first _ _ 0 0) (nd := 0) G (by decide) G.1 (fun r hr => ?_)
  exact sw_yex (nd := 0) (nv := 0) G (by decide) sw_F_al (fun r' hr' => ⟨sw_EX_u hr hr', sw_rel G⟩)
theorem i_vc_bestSet {k : Nat} {u : SX} {v : SY} (I : i_Rel k u v) (hk : k + 4 ≤ 2048) : wpX_bestSet (fun r => wpY_bestSet (fun r' => r' = r ∧ i_Rel (k + 4) u v) v) u := by
  obtain ⟨p, a, b, l, D, F, N, rfl, rfl, G⟩ := I
  unfold wpX_bestSet
  dsimp only
  refine sw_xbest (nd := 0) G.2.1 G.2.2.1 G.1 (by decide) G.1 (fun r hr => ?_)
  exact sw_yset G (fun r' hr' => ⟨sw_best_u hr hr', sw_rel G⟩)
theorem i_vc_extraWith {k : Nat} {u : SX} {v : SY} (I : i_Rel k u v) (hk : k + 4 ≤ 2048) (v1 : Int32) : wpX_extraWith (fun r => wpY_extraWith (fun r' => r' = r ∧ i_Rel (k + 4) u v) v v1) u v1 := by
  obtain ⟨p, a, b, l, D, F, N, rfl, rfl, G⟩ := I
  unfold wpX_extraWith wpY_extraWith
  dsimp only
  refine sw_xisS G.1 (fun c => br_f (by decide) ?_) (fun c => br_t rfl ?_)
  · obtain ⟨j, hj, rfl, hb⟩ := id c
    rw [sw_shl j (by omega)]
    refine sw_xex (post := fun r => wpY_street _ _ _) G (sw_p1024 j hj) G.1 (fun r hr => ?_)
    refine sw_yisS (fun _ => br_f (by decide) ?_) (fun z => absurd c z)
    exact sw_yex (nv := 0) G (sw_p1024 j hj) sw_F_al (fun r' hr' => ⟨sw_EX_u hr hr', sw_rel G⟩)
  · exact sw_yisS (fun z => absurd z c) (fun z => br_t rfl ⟨rfl, sw_rel G⟩)
theorem i_vc_extraWithout {k : Nat} {u : SX} {v : SY} (I : i_Rel k u v) (hk : k + 4 ≤ 2048) (v1 : Int32) : wpX_extraWithout (fun r => wpY_extraWithout (fun r' => r' = r ∧ i_Rel (k + 4) u v) v v1) u v1 := by
  obtain ⟨p, a, b, l, D, F, N, rfl, rfl, G⟩ := I
  unfold wpX_extraWithout wpY_extraWithout
  dsimp only
  refine sw_xisS G.1 (fun c => br_f (by decide) ?_) (fun c => br_t rfl ?_)
  · obtain ⟨j, hj, rfl, hb⟩ := id c
    rw [sw_clrI G.1 hj, sw_shl j (by omega)]
    refine sw_xex (post := fun r => wpY_street _ _ _) (nd := 0) G (by decide) (sw_clr_lt G.1) (fun r hr => ?_)
    refine sw_yisS (fun _ => br_f (by decide) ?_) (fun z => absurd c z)
    exact sw_yex (nd := 0) G (by decide) (sw_F_wo G.1) (fun r' hr' => ⟨sw_EX_u hr hr', sw_rel G⟩)
  · exact sw_yisS (fun z => absurd z c) (fun z => br_t rfl ⟨rfl, sw_rel G⟩)
theorem i_vc_walkLength {k : Nat} {u : SX} {v : SY} (I : i_Rel k u v) (hk : k + 4 ≤ 2048) : wpX_walkLength (fun r => wpY_walkLength (fun r' => r' = r ∧ i_Rel (k + 4) u v) v) u := by
  obtain ⟨p, a, b, l, D, F, N, rfl, rfl, G⟩ := I
  exact sw_xwl G (fun r hr => sw_ywl G (fun r' hr' => ⟨sw_WL_u hr hr', sw_rel G⟩))
