/-! A TEXT OF THE HILLS: both sides -/
/-- a text was read: hills, law, acts, tape, fault -/
theorem CRel.txt {g m g' m' : GG} (h : CRel g m) (f : ∀ a j, cX a j → ¬ (a = 2 ∧ j = 1) → ¬ (a = 1 ∧ (j = 15 ∨ j = 17)) → ¬ (8 ≤ a ∧ a ≤ 16) → a ≠ 35 → a ≠ 36 → g' a j = g a j) (he : mEq m m' (fun a j => a = 172 ∨ (a = 171 ∧ (j = 7 ∨ j = 9 ∨ j = 14)))) (hc : CS g' (m' 172) (m' 172) ∧ ZQ (m' 172)) (h7 : g' 1 15 = m' 171 7) (h8 : m' 171 7 = 0 ∨ (m' 171 7 = m 171 7 ∧ m' 172 2 = m 172 2)) (h9 : g' 2 1 = 0 ∧ m' 171 9 = 0) (h14 : g' 1 17 = m' 171 14) : CRel g' m' := by
  obtain ⟨-, ⟨⟨b1, b2, b3⟩, b4, b5⟩, ⟨c1, c2, c3⟩, ⟨-, d2⟩, -⟩ := h
  have f3 : m' 173 = m 173 := funext fun j => he _ _ (by unfold mX; omega) (by show ¬ ((173 : Int) = 172 ∨ _); omega)
  have fa : ∀ k, aV m' k = aV m k := fun k => funext fun j => he _ _ (by unfold mX; omega) (by show ¬ ((176 : Int) = 172 ∨ _); omega)
  have f6 : m' 171 6 = m 171 6 := he _ _ (by unfold mX; omega) (by show ¬ ((171 : Int) = 172 ∨ _); omega)
  have e14 : g' 1 14 = g 1 14 := f _ _ (by unfold cX; omega) (by omega) (by omega) (by omega) (by omega) (by omega)
  have ea : ∀ k, aT g' k = aT g k := fun k => by unfold aT; rw [e14]
  refine ⟨hc, ⟨⟨h7, by omega, by omega⟩, by rw [e14]; exact b4, fun k k0 k1 => ?_⟩, ⟨?_, by rw [f6]; exact c2, fun q => ?_⟩, ⟨⟨by rw [h9.1, h9.2], by omega, by omega⟩, fun i i0 i1 => ?_⟩, h14⟩
  · rcases h8 with h8 | ⟨h8, h82⟩
    · omega
    · rw [h8] at k1
      have t := aT_hi (g := g) (k := k)
      have hk := b5 k k0 k1
      rw [ea, fa, h82]
      exact ⟨hk.1.fr fun a j a0 a1 => f a j (by unfold cX; omega) (by omega) (by omega) (by omega) (by omega) (by omega), hk.2⟩
  · rw [f _ _ (by unfold cX; omega) (by omega) (by omega) (by omega) (by omega) (by omega), f6]; exact c1
  · rw [f6] at q
    have hq := c3 q
    rw [f3]
    exact ⟨hq.1.fr fun a j a0 a1 => f a j (by unfold cX; omega) (by omega) (by omega) (by omega) (by omega) (by omega), hq.2.1, hq.2.2.1, hq.2.2.2.1.frt (fun j hj => f _ _ (by unfold cX; omega) (by omega) (by omega) (by omega) (by omega) (by omega)) (fun j => f _ _ (by unfold cX; omega) (by omega) (by omega) (by omega) (by omega) (by omega)), hq.2.2.2.2⟩
  · rw [f _ _ (by unfold cX; omega) (by omega) (by omega) (by omega) (by omega) (by omega), he _ _ (by unfold mX; omega) (by show ¬ ((177 : Int) = 172 ∨ _); omega)]
    exact d2 i i0 i1
section HI9
variable {Γ : Cfg} {l : Launch} {d b : Nat} {g m : GG} {K : Ou → HP → Prop} {T S P N : Int → Int} {L n p e x y a lo hi : Int} {V : VV}
/-- the tape is taken up and scanned -/
theorem k_scanTape (h : CRel g m) (kk : ∀ g' n S P N, TS (g 3) (m 171 9) n S P N → CQ g' n S P N → CP g' S P N 0 → g' 2 1 = 0 → g' 1 17 = -1 → (∀ x j, ¬ (x = 2 ∧ j = 1) → ¬ (x = 1 ∧ j = 17) → ¬ (4 ≤ x ∧ x ≤ 7) → g' x j = g x j) → K (.inl vU) (stt g')) : Ct Γ l (d + 7) b yX11_scanTape mX11_scanTape [vR 1] (stt g) K := by
  obtain ⟨⟨e9, n0, n1⟩, hT⟩ := h.2.2.2.1
  apply wpX11_scanTape
  apply wpX9_takeUp
  refine bI_in ?_
  rw [e9]
  refine k_scan (g := upd2 g 2 1 0) (T := g 3) (fun i i0 i1 => ⟨upd2_ne (by decide), (hT i i0 i1).1⟩) n0 n1 fun g1 n S P N ts cq cp o => bV_in ?_
  refine kk _ n S P N ts (fun k k0 k1 => ?_) (cp.h (by decide)) ?_ upd2_eq (fun x j h1 h2 h3 => ?_)
  · rw [upd2_ne (by decide), upd2_ne (by decide), upd2_ne (by decide)]
    exact cq k k0 k1
  · rw [upd2_ne (by decide), o _ _ (by omega) (by omega), upd2_eq]
  · rw [show upd2 g1 1 17 (-1) x j = g1 x j from if_neg (fun z => h2 ⟨z.2, z.1⟩), o x j (by omega) (by omega)]
    exact if_neg (fun z => h1 ⟨z.2, z.1⟩)
/-- how a text of the hills leaves class and reference -/
theorem k_hills (h : CRel g m) (hb : 1 ≤ b)
    (kf : ∀ g' n S P N, TS (g 3) (m 171 9) n S P N → ¬ (hiR S N (m 172)).1 = true → uC g g' → (∀ m', mEq m m' (fun a j => a = 171 ∧ (j = 9 ∨ j = 14)) → m' 171 9 = 0 → m' 171 14 = P (hiR S N (m 172)).2.1 → CRel g' m') → K (.inr eIA) (stt g'))
    (ku : ∀ g' n S P N, TS (g 3) (m 171 9) n S P N → (hiR S N (m 172)).1 = true → m 172 1 = 12 → uC g g' → (∀ m', mEq m m' (fun a j => a = 171 ∧ (j = 9 ∨ j = 14)) → m' 171 9 = 0 → m' 171 14 = -1 → CRel g' m') → K (.inr eUO) (stt g'))
    (kk : ∀ g' n S P N, TS (g 3) (m 171 9) n S P N → (hiR S N (m 172)).1 = true → m 172 1 < 12 → uC g g' → (∀ m', m' 172 = upV (hiR S N (m 172)).2.2 1 (m 172 1 + 1) → mEq m m' (fun a j => a = 172 ∨ (a = 171 ∧ (j = 7 ∨ j = 9 ∨ j = 14))) → m' 171 7 = 0 → m' 171 9 = 0 → m' 171 14 = -1 → CRel g' m') → K (.inl (vI (m 172 1 + 1))) (stt g')) : Ct Γ l (d + 9) b yX11_hills mX11_hills [vR 1] (stt g) K := by
  have w0 : wr 0 = 0 := by decide +kernel
  have w1 : wr 1 = 1 := by decide +kernel
  obtain ⟨⟨hcs, hz⟩, ⟨⟨e15, _, _⟩, _, _⟩, _, _, e17⟩ := id h
  have hV := hcs.2.1
  apply wpX11_hills hb
  refine k_scanTape h fun g1 n S P N ts cq cp f2 f17 o1 => bV_in ?_
  have c8 : HRel g1 8 (m 172) := hcs.1.fr fun a j a0 a1 => o1 a j (by omega) (by omega) (by omega)
  refine k_copy hi17 c8 hV (by decide) fun g2 h2 o2 => bV_in ?_
  have o2' : ∀ x j, ¬ (17 ≤ x ∧ x ≤ 25) → g2 x j = g1 x j := fun x j hx => o2 x j (by omega)
  have cq2 : CQ g2 n S P N := fun k k0 k1 => by
    rw [o2' _ _ (by omega), o2' _ _ (by omega), o2' _ _ (by omega)]; exact cq k k0 k1
  have cp2 : CP g2 S P N 0 := ⟨by rw [o2' _ _ (by omega)]; exact cp.1, by rw [o2' _ _ (by omega)]; exact cp.2.1, by rw [o2' _ _ (by omega)]; exact cp.2.2.1, by rw [o2' _ _ (by omega)]; exact cp.2.2.2⟩
  refine k_hillsText ts h2 ⟨hV.1.1.1, hV.1.1.2, hV.1.2.2.2.2.2.2⟩ cq2 cp2 ?_
  have hwf := hi_wf (S := S) (N := N) hV hz
  have kf := fun g' => kf g' n S P N ts
  have ku := fun g' => ku g' n S P N ts
  have kk := fun g' => kk g' n S P N ts
  generalize hiR S N (m 172) = r at kf ku kk hwf ⊢
  intro g3 o3 p3 r0 rn hr
  have oo : ∀ x j, ¬ (x = 2 ∧ j = 1) → ¬ (x = 1 ∧ j = 17) → ¬ (4 ≤ x ∧ x ≤ 7) → ¬ (17 ≤ x ∧ x ≤ 25) → g3 x j = g x j := fun x j h1 h2 h3 h4 => by rw [o3 x j (by omega) h4, o2' x j h4, o1 x j h1 h2 h3]
  have f3 : g3 2 1 = 0 := by rw [o3 _ _ (by omega) (by omega), o2' _ _ (by omega)]; exact f2
  have f37 : g3 1 17 = -1 := by rw [o3 _ _ (by omega) (by omega), o2' _ _ (by omega)]; exact f17
  have c83 : HRel g3 8 (m 172) := hcs.1.fr fun a j a0 a1 => oo a j (by omega) (by omega) (by omega) (by omega)
  -- nothing is other but tape and fault
  have same : ∀ (g' m' : GG) (x : Int), (∀ a j, a ≠ 1 ∨ j ≠ 17 → g' a j = g3 a j) → g' 1 17 = x → mEq m m' (fun a j => a = 171 ∧ (j = 9 ∨ j = 14)) → m' 171 9 = 0 → m' 171 14 = x → CRel g' m' := fun g' m' x hg hx he h9 h14 => by
    have q : ∀ a j, ¬ (a = 2 ∧ j = 1) → ¬ (a = 1 ∧ j = 17) → ¬ (4 ≤ a ∧ a ≤ 7) → ¬ (17 ≤ a ∧ a ≤ 25) → g' a j = g a j := fun a j h1 h2 h3 h4 => by rw [hg a j (by omega), oo a j h1 h2 h3 h4]
    have f172 : m' 172 = m 172 := funext fun j => he _ _ (by unfold mX; omega) (by show ¬ ((172 : Int) = 171 ∧ _); omega)
    have f7 : m' 171 7 = m 171 7 := he _ _ (by unfold mX; omega) (by show ¬ ((171 : Int) = 171 ∧ ((7 : Int) = 9 ∨ (7 : Int) = 14)); decide)
    refine h.txt (fun a j hx h1 h2 h3 h4 h5 => q a j h1 (by omega) (by unfold cX at hx; omega) (by unfold cX at hx; omega)) (fun a j hx hn => he a j hx fun z => hn (Or.inr ⟨z.1, by omega⟩)) ?_ ?_ (Or.inr ⟨f7, by rw [f172]⟩) ⟨by rw [hg _ _ (by omega)]; exact f3, h9⟩ (by rw [hx, h14])
    · rw [f172]
      exact ⟨⟨hcs.1.fr fun a j a0 a1 => q a j (by omega) (by omega) (by omega) (by omega), hV, hcs.2.2.1.fr (fun j hj => q _ _ (by omega) (by omega) (by omega) (by omega)) (fun j => q _ _ (by omega) (by omega) (by omega) (by omega)), hcs.2.2.2⟩, hz⟩
    · rw [q _ _ (by omega) (by omega) (by omega) (by omega), f7]; exact e15
  by_cases z : r.1 = true
  · rw [if_pos z]
    refine bI_in ?_
    rw [w1, c83.txt, wr_id (x := m 172 1) (by have := hV.1.2.1; omega) (by have := hV.1.2.1; omega)]
    refine ⟨fun _ => ⟨fun c => ?_, fun c => ?_⟩, fun q => absurd (show (1 : Int) ≠ 0 by decide) q⟩
    · have hk := hwf z
      have h3 := hr z
      have e9 : g3 17 9 = m 172 1 := by rw [h3.txt, hk.2.1]
      rw [e9]
      have h4 := h3.fld (f := 9) (v := m 172 1 + 1) (by decide) (by decide) hk.1.1.1.2.2.2.2.2.2
      have h4 : HRel (upd2 g3 17 9 (m 172 1 + 1)) 17 (upV r.2.2 1 (m 172 1 + 1)) := h4
      have hw2 : WF (upV r.2.2 1 (m 172 1 + 1)) := by
        refine hk.1.1.hd (by decide) (by decide) ?_ (upV_ne (by decide))
        obtain ⟨q1, q2, q3, q4, q5, q6⟩ := hk.1.1.1
        unfold hdS
        rw [upV_ne (by decide), upV_eq, upV_ne (by decide), upV_ne (by decide), upV_ne (by decide), upV_ne (by decide)]
        have := hV.1.2.1
        exact ⟨q1, by omega, q3, q4, q5, q6⟩
      have hz2 : ZQ (upV r.2.2 1 (m 172 1 + 1)) := hk.1.2.up hk.1.1 (by decide) (Or.inl (by decide))
      have o4 : ∀ x j, ¬ (17 ≤ x ∧ x ≤ 25) → upd2 g3 17 9 (m 172 1 + 1) x j = g3 x j := fun x j hx => upd2_ne (by omega)
      generalize upd2 g3 17 9 (m 172 1 + 1) = g4 at h4 o4 ⊢
      refine k_copy (t := 8) (by exact c8.hi) h4 hw2 (by decide) fun g5 h5 o5 => bV_in ?_
      have e89 : (upd2 g5 1 15 0) 8 9 = m 172 1 + 1 := by
        rw [upd2_ne (by decide), h5.txt, upV_eq]
      rw [e89]
      have q : ∀ a j, ¬ (a = 1 ∧ j = 15) → ¬ (8 ≤ a ∧ a ≤ 16) → ¬ (17 ≤ a ∧ a ≤ 25) → upd2 g5 1 15 0 a j = g3 a j := fun a j h1 h2 h3 => by
        rw [show upd2 g5 1 15 0 a j = g5 a j from if_neg (fun z => h1 ⟨z.2, z.1⟩), o5 a j (by omega), o4 a j h3]
      have q5 : HRel (upd2 g5 1 15 0) 8 (upV r.2.2 1 (m 172 1 + 1)) := h5.fr fun a j a0 a1 => upd2_ne (by omega)
      have q15 : upd2 g5 1 15 0 1 15 = 0 := upd2_eq
      generalize upd2 g5 1 15 0 = g6 at q q5 q15 ⊢
      have qq : ∀ a j, ¬ (a = 2 ∧ j = 1) → ¬ (a = 1 ∧ (j = 15 ∨ j = 17)) → ¬ (4 ≤ a ∧ a ≤ 25) → g6 a j = g a j := fun a j h1 h2 h3 => by rw [q a j (by omega) (by omega) (by omega), oo a j h1 (by omega) (by omega) (by omega)]
      refine kk g6 z c (fun a j ha => qq a j (by omega) (by omega) (by omega)) fun m' hm he h7 h9 h14 => ?_
      have v2 : m' 172 2 = m 172 2 := by rw [hm, upV_ne (by decide)]; exact hk.2.2.1
      have vs : sameL (m 172) (m' 172) := fun j j0 j1 => by rw [hm, upV_ne (by omega)]; exact hk.2.2.2 j (by omega)
      refine h.txt (fun a j hx h1 h2 h3 h4 h5 => qq a j h1 h2 (by unfold cX at hx; omega)) he ?_ (by rw [q15, h7]) (Or.inl h7) ⟨by rw [q _ _ (by omega) (by omega) (by omega)]; exact f3, h9⟩ (by rw [q _ _ (by omega) (by omega) (by omega), f37, h14])
      have lr : LRel g6 35 (m' 172) := (hcs.2.2.1.fr (fun j hj => qq _ _ (by omega) (by omega) (by omega)) (fun j => qq _ _ (by omega) (by omega) (by omega))).cg9 hcs.2.2.2 v2 vs
      have ol := hcs.2.2.2.cg9 v2 vs
      rw [hm] at lr ol ⊢
      exact ⟨⟨q5, hw2, lr, ol⟩, hz2⟩
    · have e12 : m 172 1 = 12 := by have := hV.1.2.1; omega
      refine ku g3 z e12 (fun a j ha => oo a j (by omega) (by omega) (by omega) (by omega)) fun m' he h9 h14 => same g3 m' (-1) (fun _ _ _ => rfl) f37 he h9 h14
  · rw [if_neg z]
    refine bI_in ?_
    rw [w0]
    refine ⟨fun q => absurd rfl q, fun _ => kf _ z (fun a j ha => by rw [upd2_ne (by omega), oo a j (by omega) (by omega) (by omega) (by omega)]) fun m' he h9 h14 => same _ m' (P r.2.1) (fun a j hn => if_neg (fun w => by omega)) (by rw [upd2_eq]; exact p3.2.2.1) he h9 h14⟩
end HI9
