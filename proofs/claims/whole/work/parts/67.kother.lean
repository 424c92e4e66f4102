/-! SEEDS, ACTS UNDONE, IMAGES, THE TAPE: the class's side -/
/-- the reference's rows are as they were, but for some -/
def mEq (m m' : GG) (P : Int → Int → Prop) : Prop := ∀ a j, mX a j → ¬ P a j → m' a j = m a j
section KO
variable {Γ : Cfg} {l : Launch} {d b : Nat} {g m : GG} {K : Ou → HP → Prop} {V : VV} {p q n k : Int}
/-- the hills are others now, nothing else is -/
theorem CRel.now {g' m' : GG} {V' : VV} (h : CRel g m) (hv : CS g' V' V') (hz : ZQ V') (e2 : V' 2 = m 172 2) (f : fA g g') (hm : m' 172 = V') (he : mEq m m' (fun a _ => a = 172)) : CRel g' m' := by
  obtain ⟨⟨h1, _⟩, ⟨h2, h3, h4⟩, ⟨h5, h6, h7⟩, ⟨h8, h9⟩, h10⟩ := h
  have f3 : m' 173 = m 173 := funext fun j => he _ _ (by unfold mX; omega) (by show ¬ (173 : Int) = 172; decide)
  have fa : ∀ k, aV m' k = aV m k := fun k => funext fun j => he _ _ (by unfold mX; omega) (by show ¬ (176 : Int) = 172; decide)
  have f171 : ∀ j, (j = 6 ∨ j = 7 ∨ j = 9 ∨ j = 14) → m' 171 j = m 171 j := fun j hj => he _ _ (by unfold mX; omega) (by show ¬ (171 : Int) = 172; decide)
  have q : ∀ a j, cX a j → ¬ (8 ≤ a ∧ a ≤ 16) → g' a j = g a j := fun a j hx hn => f a j (Or.inr hx) hn
  have e14 : g' 1 14 = g 1 14 := q _ _ (by unfold cX; omega) (by omega)
  have ea : ∀ k, aT g' k = aT g k := fun k => by unfold aT; rw [e14]
  refine ⟨⟨by rw [hm]; exact hv, by rw [hm]; exact hz⟩, ⟨⟨?_, by rw [f171 7 (by decide)]; exact h2.2.1, by rw [f171 7 (by decide)]; exact h2.2.2⟩, by rw [e14]; exact h3, fun k k0 k1 => ?_⟩, ⟨?_, by rw [f171 6 (by decide)]; exact h6, fun w => ?_⟩, ⟨⟨?_, by rw [f171 9 (by decide)]; exact h8.2.1, by rw [f171 9 (by decide)]; exact h8.2.2⟩, fun i i0 i1 => ?_⟩, ?_⟩
  · rw [q _ _ (by unfold cX; omega) (by omega), f171 7 (by decide)]; exact h2.1
  · rw [f171 7 (by decide)] at k1
    have hk := h4 k k0 k1
    have t := aT_hi (g := g) (k := k)
    rw [ea, fa, hm, e2]
    exact ⟨hk.1.fr fun a j a0 a1 => q a j (by unfold cX; omega) (by omega), hk.2⟩
  · rw [q _ _ (by unfold cX; omega) (by omega), f171 6 (by decide)]; exact h5
  · rw [f171 6 (by decide)] at w
    have hq := h7 w
    rw [f3]
    exact ⟨hq.1.fr fun a j a0 a1 => q a j (by unfold cX; omega) (by omega), hq.2.1, hq.2.2.1, hq.2.2.2.1.frt (fun j hj => q _ _ (by unfold cX; omega) (by omega)) (fun j => q _ _ (by unfold cX; omega) (by omega)), hq.2.2.2.2⟩
  · rw [q _ _ (by unfold cX; omega) (by omega), f171 9 (by decide)]; exact h8.1
  · rw [q _ _ (by unfold cX; omega) (by omega), he _ _ (by unfold mX; omega) (by show ¬ (177 : Int) = 172; decide)]; exact h9 i i0 i1
  · rw [q _ _ (by unfold cX; omega) (by omega), f171 14 (by decide)]; exact h10
theorem k_seed (h : CRel g m) (kk : ∀ g', uC g g' → (∀ m', m' 172 = upV (m 172) 7 n → mEq m m' (fun a _ => a = 172) → CRel g' m') → K (.inl (vI (m 172 7))) (stt g')) : Ct Γ l d b yX11_seed mX11_seed [vR 1, vI n] (stt g) K := by
  have c : CT g 8 (m 172) := h.cs
  have o2 : onlyH g (upd2 g 8 13 n) 8 := fun a j ha => upd2_ne (by omega)
  have c2 : CT (upd2 g 8 13 n) 8 (upV (m 172) 7 n) := c.up (c.1.fld (f := 13) (by decide) (by decide) c.2.1.1.2.2.2.2.2.2) (c.2.1.see _) (upV_ne (by decide)) (fun j hj => upV_ne (by omega)) o2
  apply wpX11_seed
  rw [c.1.see]
  exact kk _ (fun a j ha => upd2_ne (by omega)) fun m' e1 e2 => h.now c2 (h.1.2.up h.cs.2.1 (by decide) (Or.inl (by decide))) (upV_ne (by decide)) o2.f e1 e2
/-- what was is again -/
def unV (m : GG) : VV := fun j => if 0 ≤ j ∧ j < 486 then aV m (m 171 7 - 1) j else m 172 j
theorem k_undo (h : CRel g m) (kk : ∀ g', uC g g' → (m 171 7 = 0 → CRel g' m) → (m 171 7 ≠ 0 → ∀ m', m' 172 = unV m → m' 171 7 = m 171 7 - 1 → mEq m m' (fun a j => a = 172 ∨ (a = 171 ∧ j = 7)) → CRel g' m') → K (.inl (vI (if m 171 7 = 0 then 0 else 1))) (stt g')) : Ct Γ l (d + 2) b yX11_undo mX11_undo [vR 1] (stt g) K := by
  have hh := h
  obtain ⟨⟨h1, hz⟩, ⟨⟨e15, n0, n1⟩, ⟨o0, o1⟩, h4⟩, ⟨h5, h6, h7⟩, ⟨h8, h9⟩, h10⟩ := h
  apply wpX11_undo
  rw [e15, wr_id (x := m 171 7) (by omega) (by omega)]
  refine ⟨fun c => k_actAt o0 o1 (by omega) (by omega) (bR_in ⟨fun _ => ?_, fun z => ?_⟩), fun c => ?_⟩
  · have t := aT_hi (g := g) (k := m 171 7 - 1)
    have hk := h4 (m 171 7 - 1) (by omega) (by omega)
    refine k_copy (show HI 8 from h1.1.hi) hk.1 hk.2.1 (by omega) fun g2 h2 o2 => bV_in ?_
    have f15 : g2 1 15 = m 171 7 := by rw [o2 _ _ (by omega), e15]
    rw [f15]
    have p15 : upd2 g2 1 15 (m 171 7 - 1) 1 15 = m 171 7 - 1 := upd2_eq
    have pn : ∀ a j, ¬ (a = 1 ∧ j = 15) → upd2 g2 1 15 (m 171 7 - 1) a j = g2 a j := fun a j hn => if_neg (fun z => hn ⟨z.2, z.1⟩)
    rw [if_neg c] at kk
    refine kk _ (fun a j ha => by rw [pn _ _ (by omega), o2 _ _ (by omega)]) (fun z => absurd z c) (fun _ m' e1 e7 em => ?_)
    generalize upd2 g2 1 15 (m 171 7 - 1) = g3 at p15 pn ⊢
    have q : ∀ a j, cX a j → ¬ (8 ≤ a ∧ a ≤ 16) → ¬ (a = 1 ∧ j = 15) → g3 a j = g a j := fun a j c1 c2 c3 => by rw [pn a j c3, o2 a j (by omega)]
    have ev : ∀ j, 0 ≤ j → j < 486 → unV m j = aV m (m 171 7 - 1) j := fun j j0 j1 => if_pos ⟨j0, j1⟩
    have ev2 : ∀ j, 486 ≤ j → unV m j = m 172 j := fun j j0 => if_neg (by omega)
    have h3 : HRel g3 8 (unV m) := (h2.fr fun a j a0 a1 => pn a j (by omega)).cg hk.2.1 ev
    have u2 : unV m 2 = m 172 2 := (ev 2 (by decide) (by decide)).trans hk.2.2.2
    have f3 : m' 173 = m 173 := funext fun j => em _ _ (by unfold mX; omega) (by omega)
    have fa : ∀ k, aV m' k = aV m k := fun k => funext fun j => em _ _ (by unfold mX; omega) (by omega)
    have e14 : g3 1 14 = g 1 14 := q _ _ (by unfold cX; omega) (by omega) (by omega)
    have ea : ∀ k, aT g3 k = aT g k := fun k => by unfold aT; rw [e14]
    refine ⟨⟨by rw [e1]; exact ⟨h3, hk.2.1.cg9 ev, (h1.2.2.1.fr (fun j hj => q _ _ (by unfold cX; omega) (by omega) (by omega)) (fun j => q _ _ (by unfold cX; omega) (by omega) (by omega))).cg h1.2.2.2 u2 ev2, h1.2.2.2.cg u2 ev2⟩, by rw [e1]; exact hk.2.2.1.cg hk.2.1 ev⟩, ⟨⟨by rw [p15, e7], by omega, by omega⟩, by rw [e14]; exact ⟨o0, o1⟩, fun k k0 k1 => ?_⟩, ⟨?_, ?_, fun w => ?_⟩, ⟨⟨?_, ?_, ?_⟩, fun i i0 i1 => ?_⟩, ?_⟩
    · have hk := h4 k k0 (by omega)
      have t := aT_hi (g := g) (k := k)
      rw [ea, fa, e1, u2]
      exact ⟨hk.1.fr fun a j a0 a1 => q a j (by unfold cX; omega) (by omega) (by omega), hk.2⟩
    · rw [q _ _ (by unfold cX; omega) (by omega) (by omega), em _ _ (by unfold mX; omega) (by omega)]; exact h5
    · rw [em _ _ (by unfold mX; omega) (by omega)]; exact h6
    · rw [em _ _ (by unfold mX; omega) (by omega)] at w
      have hq := h7 w
      rw [f3]
      exact ⟨hq.1.fr fun a j a0 a1 => q a j (by unfold cX; omega) (by omega) (by omega), hq.2.1, hq.2.2.1, hq.2.2.2.1.frt (fun j hj => q _ _ (by unfold cX; omega) (by omega) (by omega)) (fun j => q _ _ (by unfold cX; omega) (by omega) (by omega)), hq.2.2.2.2⟩
    · rw [q _ _ (by unfold cX; omega) (by omega) (by omega), em _ _ (by unfold mX; omega) (by omega)]; exact h8.1
    · rw [em _ _ (by unfold mX; omega) (by omega)]; exact h8.2.1
    · rw [em _ _ (by unfold mX; omega) (by omega)]; exact h8.2.2
    · rw [q _ _ (by unfold cX; omega) (by omega) (by omega), em _ _ (by unfold mX; omega) (by omega)]; exact h9 i i0 i1
    · rw [q _ _ (by unfold cX; omega) (by omega) (by omega), em _ _ (by unfold mX; omega) (by omega)]; exact h10
  · have := (aT_hi (g := g) (k := m 171 7 - 1)).2; omega
  · have c := Decidable.not_not.mp c
    rw [if_pos c] at kk
    exact kk g (fun _ _ _ => rfl) (fun _ => hh) (fun z => absurd c z)
theorem hi26 : HI 26 := show (26 : Int) ∈ ([8, 17, 26, 45, 54, 63, 72, 81, 90, 99, 108, 117, 126, 135, 144] : List Int) by decide +kernel
theorem k_image (h : CRel g m) (kk : ∀ g', uC g g' → (∀ m', (∀ j, 0 ≤ j → j < 1335 → m' 173 j = m 172 j) → m' 171 6 = 1 → mEq m m' (fun a j => a = 173 ∨ (a = 171 ∧ j = 6)) → CRel g' m') → K (.inl vU) (stt g')) : Ct Γ l (d + 2) b yX11_image mX11_image [vR 1] (stt g) K := by
  obtain ⟨⟨h1, hz⟩, ⟨⟨e15, n0, n1⟩, ⟨o0, o1⟩, h4⟩, ⟨h5, h6, h7⟩, ⟨h8, h9⟩, h10⟩ := h
  apply wpX11_image
  refine k_copy hi26 h1.1 h1.2.1 (by decide) fun g1 i1 q1 => bV_in ?_
  have l1 : LRel g1 35 (m 172) := h1.2.2.1.fr (fun j hj => q1 _ _ (by omega)) (fun j => q1 _ _ (by omega))
  refine k_lawCopy LA41 l1 h1.2.2.2 (by decide) (by decide) fun g2 l2 q2 => bV_in ?_
  have p16 : upd2 g2 1 16 1 1 16 = 1 := upd2_eq
  have pn : ∀ a j, ¬ (a = 1 ∧ j = 16) → upd2 g2 1 16 1 a j = g2 a j := fun a j hn => if_neg (fun z => hn ⟨z.2, z.1⟩)
  generalize upd2 g2 1 16 1 = g3 at p16 pn ⊢
  have q : ∀ a j, ¬ (26 ≤ a ∧ a ≤ 34) → a ≠ 42 → ¬ (a = 41 ∧ 2 ≤ j ∧ j < 5) → ¬ (a = 1 ∧ j = 16) → g3 a j = g a j := fun a j c1 c2 c3 c4 => by rw [pn a j c4, q2 a j c2 c3, q1 a j (by omega)]
  refine kk g3 (fun a j ha => q a j (by omega) (by omega) (by omega) (by omega)) fun m' e1 e6 em => ?_
  have f2 : m' 172 = m 172 := funext fun j => em _ _ (by unfold mX; omega) (by omega)
  have fa : ∀ k, aV m' k = aV m k := fun k => funext fun j => em _ _ (by unfold mX; omega) (by omega)
  have e14 : g3 1 14 = g 1 14 := q _ _ (by omega) (by omega) (by omega) (by omega)
  have ea : ∀ k, aT g3 k = aT g k := fun k => by unfold aT; rw [e14]
  have f7 : m' 171 7 = m 171 7 := em _ _ (by unfold mX; omega) (by omega)
  have f9 : m' 171 9 = m 171 9 := em _ _ (by unfold mX; omega) (by omega)
  refine ⟨⟨by rw [f2]; exact ⟨h1.1.fr fun a j a0 a1 => q a j (by omega) (by omega) (by omega) (by omega), h1.2.1, h1.2.2.1.fr (fun j hj => q _ _ (by omega) (by omega) (by omega) (by omega)) (fun j => q _ _ (by omega) (by omega) (by omega) (by omega)), h1.2.2.2⟩, by rw [f2]; exact hz⟩, ⟨⟨by rw [q _ _ (by omega) (by omega) (by omega) (by omega), f7]; exact e15, by rw [f7]; exact n0, by rw [f7]; exact n1⟩, by rw [e14]; exact ⟨o0, o1⟩, fun k k0 k1 => ?_⟩, ⟨by rw [p16, e6], Or.inr e6, fun _ => ?_⟩, ⟨⟨?_, by rw [f9]; exact h8.2.1, by rw [f9]; exact h8.2.2⟩, fun i i0 i1 => ?_⟩, ?_⟩
  · rw [f7] at k1
    have hk := h4 k k0 k1
    have t := aT_hi (g := g) (k := k)
    rw [ea, fa, f2]
    exact ⟨hk.1.fr fun a j a0 a1 => q a j (by omega) (by omega) (by omega) (by omega), hk.2⟩
  · have ev : ∀ j, 0 ≤ j → j < 486 → m' 173 j = m 172 j := fun j j0 j1 => e1 j j0 (by omega)
    have sl : sameL (m 172) (m' 173) := fun j j0 j1 => e1 j (by omega) j1
    have i3 : HRel g3 26 (m 172) := i1.fr fun a j a0 a1 => by rw [pn a j (by omega), q2 a j (by omega) (by omega)]
    have l3 : LRel g3 41 (m 172) := l2.frt (fun j hj => pn _ _ (by omega)) (fun j => pn _ _ (by omega))
    exact ⟨i3.cg h1.2.1 ev, h1.2.1.cg9 ev, hz.cg h1.2.1 ev, l3.cg9 h1.2.2.2 (ev 2 (by decide) (by decide)) sl, h1.2.2.2.cg9 (ev 2 (by decide) (by decide)) sl⟩
  · rw [q _ _ (by omega) (by omega) (by omega) (by omega), f9]; exact h8.1
  · rw [q _ _ (by omega) (by omega) (by omega) (by omega), em _ _ (by unfold mX; omega) (by omega)]; exact h9 i i0 i1
  · rw [q _ _ (by omega) (by omega) (by omega) (by omega), em _ _ (by unfold mX; omega) (by omega)]; exact h10
theorem k_back (h : CRel g m) (kk : ∀ g', uC g g' → (m 171 6 = 0 → CRel g' m) → (m 171 6 ≠ 0 → ∀ m', (∀ j, 0 ≤ j → j < 1335 → m' 172 j = m 173 j) → m' 171 7 = 0 → mEq m m' (fun a j => a = 172 ∨ (a = 171 ∧ j = 7)) → CRel g' m') → K (.inl (vI (if m 171 6 = 0 then 0 else 1))) (stt g')) : Ct Γ l (d + 2) b yX11_back mX11_back [vR 1] (stt g) K := by
  have hh := h
  obtain ⟨⟨h1, hz⟩, ⟨⟨e15, n0, n1⟩, ⟨o0, o1⟩, h4⟩, ⟨h5, h6, h7⟩, ⟨h8, h9⟩, h10⟩ := h
  apply wpX11_back
  rw [h5, wr_id (x := m 171 6) (by omega) (by omega)]
  refine ⟨fun c => ?_, fun c => ?_⟩
  · obtain ⟨j1, j2, j3, j4, j5⟩ := h7 (by omega)
    refine k_copy h1.1.hi j1 j2 (by decide) fun g1 i1 q1 => bV_in ?_
    have l1 : LRel g1 41 (m 173) := j4.frt (fun j hj => q1 _ _ (by omega)) (fun j => q1 _ _ (by omega))
    refine k_lawCopy LA35 l1 j5 (by decide) (by decide) fun g2 l2 q2 => bV_in ?_
    have p15 : upd2 g2 1 15 0 1 15 = 0 := upd2_eq
    have pn : ∀ a j, ¬ (a = 1 ∧ j = 15) → upd2 g2 1 15 0 a j = g2 a j := fun a j hn => if_neg (fun z => hn ⟨z.2, z.1⟩)
    generalize upd2 g2 1 15 0 = g3 at p15 pn ⊢
    have q : ∀ a j, ¬ (8 ≤ a ∧ a ≤ 16) → a ≠ 36 → ¬ (a = 35 ∧ 2 ≤ j ∧ j < 5) → ¬ (a = 1 ∧ j = 15) → g3 a j = g a j := fun a j c1 c2 c3 c4 => by rw [pn a j c4, q2 a j c2 c3, q1 a j (by omega)]
    rw [if_neg c] at kk
    refine kk g3 (fun a j ha => q a j (by omega) (by omega) (by omega) (by omega)) (fun z => absurd z c) (fun _ m' e1 e7 em => ?_)
    have ev : ∀ j, 0 ≤ j → j < 486 → m' 172 j = m 173 j := fun j j0 j1 => e1 j j0 (by omega)
    have sl : sameL (m 173) (m' 172) := fun j j0 j1 => e1 j (by omega) j1
    have f3 : m' 173 = m 173 := funext fun j => em _ _ (by unfold mX; omega) (by omega)
    have f6 : m' 171 6 = m 171 6 := em _ _ (by unfold mX; omega) (by omega)
    have f9 : m' 171 9 = m 171 9 := em _ _ (by unfold mX; omega) (by omega)
    have e14 : g3 1 14 = g 1 14 := q _ _ (by omega) (by omega) (by omega) (by omega)
    have i3 : HRel g3 8 (m 173) := i1.fr fun a j a0 a1 => by rw [pn a j (by omega), q2 a j (by omega) (by omega)]
    have l3 : LRel g3 35 (m 173) := l2.frt (fun j hj => pn _ _ (by omega)) (fun j => pn _ _ (by omega))
    refine ⟨⟨⟨i3.cg j2 ev, j2.cg9 ev, l3.cg9 j5 (ev 2 (by decide) (by decide)) sl, j5.cg9 (ev 2 (by decide) (by decide)) sl⟩, j3.cg j2 ev⟩, ⟨⟨by rw [p15, e7], by omega, by omega⟩, by rw [e14]; exact ⟨o0, o1⟩, fun k k0 k1 => absurd k1 (by omega)⟩, ⟨by rw [q _ _ (by omega) (by omega) (by omega) (by omega), f6]; exact h5, by rw [f6]; exact h6, fun w => ?_⟩, ⟨⟨?_, by rw [f9]; exact h8.2.1, by rw [f9]; exact h8.2.2⟩, fun i i0 i1 => ?_⟩, ?_⟩
    · rw [f3]
      exact ⟨j1.fr fun a j a0 a1 => q a j (by omega) (by omega) (by omega) (by omega), j2, j3, j4.frt (fun j hj => q _ _ (by omega) (by omega) (by omega) (by omega)) (fun j => q _ _ (by omega) (by omega) (by omega) (by omega)), j5⟩
    · rw [q _ _ (by omega) (by omega) (by omega) (by omega), f9]; exact h8.1
    · rw [q _ _ (by omega) (by omega) (by omega) (by omega), em _ _ (by unfold mX; omega) (by omega)]; exact h9 i i0 i1
    · rw [q _ _ (by omega) (by omega) (by omega) (by omega), em _ _ (by unfold mX; omega) (by omega)]; exact h10
  · have c : m 171 6 = 0 := by omega
    rw [if_pos c] at kk
    exact kk g (fun _ _ _ => rfl) (fun _ => hh) (fun z => absurd c z)
/-- the tape is another now, nothing else is -/
theorem CRel.tap {g' m' : GG} (h : CRel g m) (f : ∀ a j, (171 ≤ a ∨ cX a j) → ¬ (a = 2 ∧ j = 1) → a ≠ 3 → g' a j = g a j) (he : mEq m m' (fun a j => a = 177 ∨ (a = 171 ∧ j = 9))) (h1 : g' 2 1 = m' 171 9 ∧ 0 ≤ m' 171 9 ∧ m' 171 9 ≤ 400) (h2 : ∀ i, 0 ≤ i → i < 400 → (0 ≤ g' 3 i ∧ g' 3 i ≤ 255) ∧ m' 177 i = sb (g' 3 i)) : CRel g' m' := by
  have c1 : CRel (fun a j => if (a = 2 ∧ j = 1) ∨ a = 3 then g a j else g' a j) (fun a j => if a = 177 ∨ (a = 171 ∧ j = 9) then m a j else m' a j) := h.cong (fun a j hx => by
      show (if (a = 2 ∧ j = 1) ∨ a = 3 then g a j else g' a j) = g a j
      by_cases z : (a = 2 ∧ j = 1) ∨ a = 3
      · rw [if_pos z]
      · rw [if_neg z]; exact f a j (Or.inr hx) (fun c => z (Or.inl c)) (fun c => z (Or.inr c))) (fun a j hx => by
      show (if a = 177 ∨ (a = 171 ∧ j = 9) then m a j else m' a j) = m a j
      by_cases z : a = 177 ∨ (a = 171 ∧ j = 9)
      · rw [if_pos z]
      · rw [if_neg z]; exact he a j hx z)
  have eg : ∀ a j, ¬ ((a = 2 ∧ j = 1) ∨ a = 3) → g' a j = (fun a j => if (a = 2 ∧ j = 1) ∨ a = 3 then g a j else g' a j) a j := fun a j hn => (if_neg hn).symm
  have em : ∀ a j, ¬ (a = 177 ∨ (a = 171 ∧ j = 9)) → m' a j = (fun a j => if a = 177 ∨ (a = 171 ∧ j = 9) then m a j else m' a j) a j := fun a j hn => (if_neg hn).symm
  generalize (fun a j => if (a = 2 ∧ j = 1) ∨ a = 3 then g a j else g' a j) = x at c1 eg
  generalize (fun a j => if a = 177 ∨ (a = 171 ∧ j = 9) then m a j else m' a j) = y at c1 em
  obtain ⟨⟨a1, az⟩, ⟨⟨e15, n0, n1⟩, ⟨o0, o1⟩, a4⟩, ⟨a5, a6, a7⟩, -, a10⟩ := c1
  have f2 : m' 172 = y 172 := funext fun j => em _ _ (by omega)
  have f3 : m' 173 = y 173 := funext fun j => em _ _ (by omega)
  have fa : ∀ k, aV m' k = aV y k := fun k => funext fun j => em _ _ (by omega)
  have e14 : g' 1 14 = x 1 14 := eg _ _ (by omega)
  have ea : ∀ k, aT g' k = aT x k := fun k => by unfold aT; rw [e14]
  have f7 : m' 171 7 = y 171 7 := em _ _ (by omega)
  have f6 : m' 171 6 = y 171 6 := em _ _ (by omega)
  refine ⟨⟨by rw [f2]; exact ⟨a1.1.fr fun a j a0 a1 => eg a j (by omega), a1.2.1, a1.2.2.1.fr (fun j hj => eg _ _ (by omega)) (fun j => eg _ _ (by omega)), a1.2.2.2⟩, by rw [f2]; exact az⟩, ⟨⟨by rw [eg _ _ (by omega), f7]; exact e15, by rw [f7]; exact n0, by rw [f7]; exact n1⟩, by rw [e14]; exact ⟨o0, o1⟩, fun k k0 k1 => ?_⟩, ⟨by rw [eg _ _ (by omega), f6]; exact a5, by rw [f6]; exact a6, fun w => ?_⟩, ⟨h1, h2⟩, by rw [eg _ _ (by omega), em _ _ (by omega)]; exact a10⟩
  · rw [f7] at k1
    have hk := a4 k k0 k1
    have t := aT_hi (g := x) (k := k)
    rw [ea, fa, f2]
    exact ⟨hk.1.fr fun a j a0 a1 => eg a j (by omega), hk.2⟩
  · rw [f6] at w
    have hq := a7 w
    rw [f3]
    exact ⟨hq.1.fr fun a j a0 a1 => eg a j (by omega), hq.2.1, hq.2.2.1, hq.2.2.2.1.frt (fun j hj => eg _ _ (by omega)) (fun j => eg _ _ (by omega)), hq.2.2.2.2⟩
theorem k_end (h : CRel g m) (hn : wr n = n) (kk : ∀ g', uC g g' → (¬ (0 ≤ n ∧ n ≤ m 171 9) → CRel g' m) → (0 ≤ n ∧ n ≤ m 171 9 → ∀ m', m' 171 9 = n → mEq m m' (fun a j => a = 171 ∧ j = 9) → CRel g' m') → K (.inl (vI (if 0 ≤ n ∧ n ≤ m 171 9 then 1 else 0))) (stt g')) : Ct Γ l d b yX11_end mX11_end [vR 1, vI n] (stt g) K := by
  obtain ⟨e9, -, n9⟩ := h.2.2.2.1.1
  have hb := h.2.2.2.1.2
  have n0 := h.2.2.2.1.1.2.1
  apply wpX11_end
  rw [hn, e9, wr_id (x := m 171 9) (by omega) (by omega)]
  refine ⟨fun c => ?_, fun c => ⟨fun c2 => ?_, fun c2 => ?_⟩⟩
  · rw [if_neg (by omega)] at kk
    exact kk g (fun _ _ _ => rfl) (fun _ => h) (fun z => absurd z.1 (by omega))
  · rw [if_pos (by omega)] at kk
    have pn : ∀ a j, ¬ (a = 2 ∧ j = 1) → upd2 g 2 1 n a j = g a j := fun a j hn => if_neg (fun z => hn ⟨z.2, z.1⟩)
    refine kk _ (fun a j ha => pn _ _ (by omega)) (fun z => absurd (by omega) z) (fun _ m' e1 em => h.tap (fun a j _ h2 _ => pn a j h2) (fun a j hx hn => em a j hx (fun z => hn (Or.inr z))) ⟨by rw [upd2_eq, e1], by omega, by omega⟩ fun i i0 i1 => ?_)
    rw [pn _ _ (by omega), em _ _ (by unfold mX; omega) (by omega)]
    exact hb i i0 i1
  · rw [if_neg (by omega)] at kk
    exact kk g (fun _ _ _ => rfl) (fun _ => h) (fun z => absurd z.2 (by omega))
end KO
