/-! CLASS AND REFERENCE: what ties them -/
/-- an act that is remembered, as the reference has it -/
def aV (m : GG) (k : Int) : VV := fun j => m 176 (486 * k + j)
def aT (g : GG) (k : Int) : Int := 45 + 9 * ((g 1 14 + k) % 12)
/-- nothing where nobody is, no words counted of the silent -/
def ZQ (V : VV) : Prop := ZP V ∧ ∀ p, 0 ≤ p → p < 6 → zS V p = 0 → zC V p = 0
/-- the class in g is as the reference in m says -/
def CRel (g m : GG) : Prop :=
  (CS g (m 172) (m 172) ∧ ZQ (m 172)) ∧
  ((g 1 15 = m 171 7 ∧ 0 ≤ m 171 7 ∧ m 171 7 ≤ 12) ∧ (0 ≤ g 1 14 ∧ g 1 14 < 12) ∧ ∀ k, 0 ≤ k → k < m 171 7 → HRel g (aT g k) (aV m k) ∧ WF (aV m k) ∧ ZQ (aV m k) ∧ aV m k 2 = m 172 2) ∧
  (g 1 16 = m 171 6 ∧ (m 171 6 = 0 ∨ m 171 6 = 1) ∧ (m 171 6 = 1 → HRel g 26 (m 173) ∧ WF (m 173) ∧ ZQ (m 173) ∧ LRel g 41 (m 173) ∧ okLaw (m 173))) ∧
  ((g 2 1 = m 171 9 ∧ 0 ≤ m 171 9 ∧ m 171 9 ≤ 400) ∧ ∀ i, 0 ≤ i → i < 400 → (0 ≤ g 3 i ∧ g 3 i ≤ 255) ∧ m 177 i = sb (g 3 i)) ∧
  g 1 17 = m 171 14
theorem LRel.frt {g g' : GG} {t : Int} {W : VV} (h : LRel g t W) (e : ∀ j, j < 5 → g' t j = g t j) (e2 : ∀ j, g' (t + 1 + 0) j = g (t + 1 + 0) j) : LRel g' t W := by
  obtain ⟨a0, ⟨a1, a2, a3, a4⟩, a5⟩ := h
  refine ⟨a0, ⟨by rw [e _ (by decide), a1], by rw [e _ (by decide), a2], by rw [e _ (by decide), a3], a4⟩, fun n hn => ?_⟩
  obtain ⟨b1, b2, b3⟩ := a5 n hn
  exact ⟨by rw [e2, b1], fun c => by rw [e2, b2 c], fun k hk => by rw [e2, b3 k hk]⟩
def cX (a j : Int) : Prop := (8 ≤ a ∧ a ≤ 16) ∨ (26 ≤ a ∧ a ≤ 34) ∨ (a = 35 ∧ j < 5) ∨ a = 36 ∨ (a = 41 ∧ j < 5) ∨ a = 42 ∨ (45 ≤ a ∧ a ≤ 152) ∨ (a = 1 ∧ 14 ≤ j ∧ j ≤ 17) ∨ (a = 2 ∧ j = 1) ∨ a = 3
def mX (a j : Int) : Prop := a = 172 ∨ a = 173 ∨ a = 176 ∨ a = 177 ∨ (a = 171 ∧ (j = 6 ∨ j = 7 ∨ j = 9 ∨ j = 14))
theorem aT_hi {g : GG} {k : Int} : HI (aT g k) ∧ 45 ≤ aT g k ∧ aT g k + 8 ≤ 152 := by
  have h0 := Int.emod_nonneg (g 1 14 + k) (show (12 : Int) ≠ 0 by decide)
  have h1 := Int.emod_lt_of_pos (g 1 14 + k) (show (0 : Int) < 12 by decide)
  unfold aT
  generalize (g 1 14 + k) % 12 = x at h0 h1 ⊢
  refine ⟨?_, by omega, by omega⟩
  have h := List.all_eq_true.mp (show (List.range 12).all (fun x => decide ((45 + 9 * (x : Int)) ∈ ([8, 17, 26, 45, 54, 63, 72, 81, 90, 99, 108, 117, 126, 135, 144] : List Int))) = true by decide +kernel) x.toNat (List.mem_range.mpr (by omega))
  rw [decide_eq_true_iff, Int.toNat_of_nonneg h0] at h
  exact h
theorem CRel.cong {g m g' m' : GG} (h : CRel g m) (e : ∀ a j, cX a j → g' a j = g a j) (f : ∀ a j, mX a j → m' a j = m a j) : CRel g' m' := by
  have f2 : m' 172 = m 172 := funext fun j => f _ _ (Or.inl rfl)
  have f3 : m' 173 = m 173 := funext fun j => f _ _ (Or.inr (Or.inl rfl))
  have fa : ∀ k, aV m' k = aV m k := fun k => funext fun j => f _ _ (Or.inr (Or.inr (Or.inl rfl)))
  have f7 : m' 171 7 = m 171 7 := f _ _ (by unfold mX; omega)
  have f6 : m' 171 6 = m 171 6 := f _ _ (by unfold mX; omega)
  have f9 : m' 171 9 = m 171 9 := f _ _ (by unfold mX; omega)
  have f14 : m' 171 14 = m 171 14 := f _ _ (by unfold mX; omega)
  have e14 : g' 1 14 = g 1 14 := e _ _ (by unfold cX; omega)
  have ea : ∀ k, aT g' k = aT g k := fun k => by unfold aT; rw [e14]
  obtain ⟨⟨h1, hz⟩, ⟨h2, h3, h4⟩, ⟨h5, h6, h7⟩, ⟨h8, h9⟩, h10⟩ := h
  refine ⟨⟨?_, by rw [f2]; exact hz⟩, ⟨⟨?_, by rw [f7]; exact h2.2.1, by rw [f7]; exact h2.2.2⟩, by rw [e14]; exact h3, fun k k0 k1 => ?_⟩, ⟨?_, by rw [f6]; exact h6, fun q => ?_⟩, ⟨⟨?_, by rw [f9]; exact h8.2.1, by rw [f9]; exact h8.2.2⟩, fun i i0 i1 => ?_⟩, ?_⟩
  · rw [f2]
    exact ⟨h1.1.fr fun a j a0 a1 => e a j (by unfold cX; omega), h1.2.1, h1.2.2.1.fr (fun j hj => e _ _ (by unfold cX; omega)) (fun j => e _ _ (by unfold cX; omega)), h1.2.2.2⟩
  · rw [e _ _ (by unfold cX; omega), f7]; exact h2.1
  · rw [f7] at k1
    have hk := h4 k k0 k1
    have t := aT_hi (g := g) (k := k)
    rw [ea, fa, f2]
    exact ⟨hk.1.fr fun a j a0 a1 => e a j (by unfold cX; omega), hk.2⟩
  · rw [e _ _ (by unfold cX; omega), f6]; exact h5
  · rw [f6] at q
    have hq := h7 q
    rw [f3]
    exact ⟨hq.1.fr fun a j a0 a1 => e a j (by unfold cX; omega), hq.2.1, hq.2.2.1, hq.2.2.2.1.frt (fun j hj => e _ _ (by unfold cX; omega)) (fun j => e _ _ (by unfold cX; omega)), hq.2.2.2.2⟩
  · rw [e _ _ (by unfold cX; omega), f9]; exact h8.1
  · rw [e _ _ (by unfold cX; omega), f _ _ (by unfold mX; omega)]; exact h9 i i0 i1
  · rw [e _ _ (by unfold cX; omega), f14]; exact h10
def Rel9 (g : GG) : Prop := CRel g g
theorem cX_cS {a j : Int} (h : cX a j) : cS a j := by unfold cX at h; unfold cS; omega
/-- a call that only asks -/
theorem Rel9.ask {g g1 g2 : GG} (h : Rel9 g) (c : kC g g1) (m : kM g1 g2) : Rel9 g2 :=
  h.cong (fun a j hx => by rw [m a j (by unfold cX at hx; unfold mS; omega), c a j (cX_cS hx)]) (fun a j hx => by rw [m a j (by unfold mX at hx; unfold mS; omega), c a j (by unfold mX at hx; unfold cS; omega)])
/-- a call that takes up the tape, and asks -/
theorem Rel9.use {g g1 g2 : GG} (h : Rel9 g) (c : kU g g1) (m : kV g1 g2) : Rel9 g2 := by
  obtain ⟨h1, h2, h3, ⟨h8, h9⟩, h10⟩ := h
  have c9 : g1 2 1 = 0 := c.2
  have m9 : g2 171 9 = 0 := m.2
  have q : CRel (upd2 g 2 1 0) (upd2 g 171 9 0) := by
    have e : ∀ a j, ¬ (a = 2 ∧ j = 1) → upd2 g 2 1 0 a j = g a j := fun a j hn => if_neg (fun z => hn ⟨z.2, z.1⟩)
    have f : ∀ a j, ¬ (a = 171 ∧ j = 9) → upd2 g 171 9 0 a j = g a j := fun a j hn => if_neg (fun z => hn ⟨z.2, z.1⟩)
    have f2 : (upd2 g 171 9 0) 172 = g 172 := funext fun j => f _ _ (by omega)
    have f3 : (upd2 g 171 9 0) 173 = g 173 := funext fun j => f _ _ (by omega)
    have fa : ∀ k, aV (upd2 g 171 9 0) k = aV g k := fun k => funext fun j => f _ _ (by omega)
    have ea : ∀ k, aT (upd2 g 2 1 0) k = aT g k := fun k => by unfold aT; rw [e _ _ (by omega)]
    refine ⟨?_, ?_, ?_, ⟨⟨?_, ?_, ?_⟩, fun i i0 i1 => ?_⟩, ?_⟩
    · rw [f2]; exact ⟨h1.1.u2, h1.2⟩
    · rw [f _ _ (by omega), f2, e _ _ (by omega), e _ _ (by omega)]
      refine ⟨h2.1, h2.2.1, fun k k0 k1 => ?_⟩
      have t := aT_hi (g := g) (k := k)
      have hk := h2.2.2 k k0 k1
      rw [ea, fa]
      exact ⟨hk.1.fr fun a j a0 a1 => e a j (by omega), hk.2⟩
    · rw [f _ _ (by omega), f3, e _ _ (by omega)]
      refine ⟨h3.1, h3.2.1, fun q => ?_⟩
      have hq := h3.2.2 q
      exact ⟨hq.1.fr fun a j a0 a1 => e a j (by omega), hq.2.1, hq.2.2.1, hq.2.2.2.1.frt (fun j hj => e _ _ (by omega)) (fun j => e _ _ (by omega)), hq.2.2.2.2⟩
    · rw [upd2_eq, upd2_eq]
    · rw [upd2_eq]; decide
    · rw [upd2_eq]; decide
    · rw [e _ _ (by omega), f _ _ (by omega)]; exact h9 i i0 i1
    · rw [e _ _ (by omega), f _ _ (by omega)]; exact h10
  refine q.cong (fun a j hx => ?_) (fun a j hx => ?_)
  · by_cases z : a = 2 ∧ j = 1
    · rw [z.1, z.2, m.1 _ _ (by unfold mU mS; omega), c9, upd2_eq]
    · rw [show upd2 g 2 1 0 a j = g a j from if_neg (fun e => z ⟨e.2, e.1⟩), m.1 a j (by unfold mU; unfold cX at hx; unfold mS; omega), c.1 a j (by unfold cU; exact ⟨cX_cS hx, z⟩)]
  · by_cases z : a = 171 ∧ j = 9
    · rw [z.1, z.2, m9, upd2_eq]
    · rw [show upd2 g 171 9 0 a j = g a j from if_neg (fun e => z ⟨e.2, e.1⟩), m.1 a j (by unfold mU; unfold mX at hx; unfold mS; omega), c.1 a j (by unfold cU; unfold mX at hx; unfold cS; omega)]
theorem Rel9.tb {g : GG} (h : Rel9 g) : TB g (g 3) (g 171 9) ∧ MB g (g 3) (g 171 9) := by
  obtain ⟨-, -, -, ⟨h8, h9⟩, -⟩ := h
  exact ⟨⟨h8, fun i i0 i1 => ⟨rfl, (h9 i i0 i1).1⟩⟩, ⟨rfl, h8.2⟩, h9⟩
/-- what was is remembered, and V is now -/
def AC (m m' : GG) (V' : VV) : Prop :=
  m' 172 = V' ∧ m' 173 = m 173 ∧ (∀ i, m' 177 i = m 177 i) ∧ (m' 171 6 = m 171 6 ∧ m' 171 9 = m 171 9 ∧ m' 171 14 = m 171 14) ∧
  m' 171 7 = (if m 171 7 = 12 then 12 else m 171 7 + 1) ∧
  ∀ k, 0 ≤ k → k < m' 171 7 → ∀ j, 0 ≤ j → j < 486 → aV m' k j = if k = m' 171 7 - 1 then m 172 j else aV m (k + (if m 171 7 = 12 then 1 else 0)) j
def CA (g m : GG) (V' : VV) : Prop := ∀ m', AC m m' V' → CRel g m'
theorem WF.cg9 {V V' : VV} (h : WF V) (e : ∀ j, 0 ≤ j → j < 486 → V' j = V j) : WF V' := by
  refine h.of ?_ (fun i i0 i1 => ?_) (fun q q0 q1 => ?_) (fun q q0 q1 => ⟨e _ (by omega) (by omega), fun j j0 j1 => e _ (by omega) (by omega)⟩)
  · unfold hdS
    rw [e 0 (by decide) (by decide), e 1 (by decide) (by decide), e 3 (by decide) (by decide), e 4 (by decide) (by decide), e 5 (by decide) (by decide), e 6 (by decide) (by decide)]
    exact h.1
  · rw [e _ (by omega) (by omega)]; exact h.2.1 i i0 i1
  · have hq := h.pn q0 q1
    have a1 : zL V' q = zL V q := e _ (by omega) (by omega)
    have a2 : zB V' q = zB V q := e _ (by omega) (by omega)
    have a3 : zG V' q = zG V q := e _ (by omega) (by omega)
    have a4 : zS V' q = zS V q := e _ (by omega) (by omega)
    have a5 : zC V' q = zC V q := e _ (by omega) (by omega)
    unfold pnS
    rw [a1, a2, a3, a4, a5, e 0 (by decide) (by decide)]
    exact hq
theorem ZP.cg {V V' : VV} (hV : WF V) (h : ZP V) (e : ∀ j, 0 ≤ j → j < 486 → V' j = V j) : ZP V' := fun p p0 p1 w w0 w1 => by
  have h6 := hV.1.1
  rw [e 0 (by decide) (by decide)] at p0
  rw [e _ (by omega) (by omega)]
  exact h p p0 p1 w w0 w1
theorem ZQ.cg {V V' : VV} (hV : WF V) (h : ZQ V) (e : ∀ j, 0 ≤ j → j < 486 → V' j = V j) : ZQ V' := ⟨h.1.cg hV e, fun p p0 p1 => by
  have a4 : zS V' p = zS V p := e _ (by omega) (by omega)
  have a5 : zC V' p = zC V p := e _ (by omega) (by omega)
  rw [a4, a5]
  exact h.2 p p0 p1⟩
section RM
variable {Γ : Cfg} {l : Launch} {d b : Nat} {g m : GG} {K : Ou → HP → Prop}
theorem cRC44 : ∀ x : Int, 0 ≤ x → x < 12 → RC 44 x = 45 + 9 * x := fun x x0 x1 => by
  have h := List.all_eq_true.mp (show (List.range 12).all (fun x => decide (RC 44 (x : Int) = 45 + 9 * (x : Int))) = true by decide +kernel) x.toNat (List.mem_range.mpr (by omega))
  rw [decide_eq_true_iff, Int.toNat_of_nonneg x0] at h
  exact h
theorem k_actAt {x : Int} (o0 : 0 ≤ g 1 14) (o1 : g 1 14 < 12) (x0 : 0 ≤ x) (x1 : x < 12) (kk : K (.inl (vR (aT g x))) (stt g)) : Ct Γ l d b yX11_actAt mX11_actAt [vR 1, vI x] (stt g) K := by
  have h0 := Int.emod_nonneg (g 1 14 + x) (show (12 : Int) ≠ 0 by decide)
  have h1 := Int.emod_lt_of_pos (g 1 14 + x) (show (0 : Int) < 12 by decide)
  apply wpX11_actAt
  rw [iRem_nn (by omega) (by omega) (by decide) (by decide), wr_id (x := (g 1 14 + x) % 12) (by omega) (by omega), cRC44 _ h0 h1]
  exact ⟨fun c => absurd c (by omega), fun _ => ⟨fun c => absurd c (by omega), fun _ => ⟨⟨h0, h1⟩, kk⟩⟩⟩
/-- frames of the class that an act may change beside its own hills -/
def cR (a j : Int) : Prop := (45 ≤ a ∧ a ≤ 152) ∨ (a = 1 ∧ (j = 14 ∨ j = 15))
/-- remembered, nothing else changed yet -/
def RemC (g g1 : GG) (m : GG) : Prop :=
  (∀ a j, ¬ cR a j → g1 a j = g a j) ∧ (g1 1 15 = (if m 171 7 = 12 then 12 else m 171 7 + 1)) ∧ (0 ≤ g1 1 14 ∧ g1 1 14 < 12) ∧
  ∀ k, 0 ≤ k → k < g1 1 15 → HRel g1 (aT g1 k) (if k = g1 1 15 - 1 then m 172 else aV m (k + (if m 171 7 = 12 then 1 else 0)))
theorem mod_ne {a k k' : Int} (k0 : 0 ≤ k) (k1 : k < 12) (k0' : 0 ≤ k') (k1' : k' < 12) (h : k ≠ k') : (a + k) % 12 ≠ (a + k') % 12 := by omega
theorem k_remember (h : CRel g m) (kk : ∀ g1, RemC g g1 m → K (.inl vU) (stt g1)) : Ct Γ l (d + 2) b yX11_rememberAct mX11_rememberAct [vR 1] (stt g) K := by
  obtain ⟨⟨h1, hz⟩, ⟨⟨e15, n0, n1⟩, ⟨o0, o1⟩, h4⟩, -⟩ := h
  apply wpX11_rememberAct
  rw [e15, wr_id (x := m 171 7) (by omega) (by omega)]
  refine ⟨fun c => ?_, fun c g3 e3 => ?_⟩
  · refine k_actAt o0 o1 n0 (by omega) (bR_in ⟨fun z => ?_, fun _ => ?_⟩)
    · have := (aT_hi (g := g) (k := m 171 7)).2; omega
    · have t := aT_hi (g := g) (k := m 171 7)
      refine ⟨t.1, k_copy t.1 h1.1 h1.2.1 (by omega) fun g2 h2 o2 => bV_in (kk _ ?_)⟩
      have f15 : g2 1 15 = m 171 7 := by rw [o2 _ _ (by omega), e15]
      have f14 : g2 1 14 = g 1 14 := o2 _ _ (by omega)
      rw [f15]
      have g14 : upd2 g2 1 15 (m 171 7 + 1) 1 14 = g 1 14 := by rw [upd2_nj (by decide), f14]
      have g15 : upd2 g2 1 15 (m 171 7 + 1) 1 15 = m 171 7 + 1 := upd2_eq
      have ea : ∀ k, aT (upd2 g2 1 15 (m 171 7 + 1)) k = aT g k := fun k => by unfold aT; rw [g14]
      refine ⟨fun a j hn => ?_, by rw [g15, if_neg c], by rw [g14]; exact ⟨o0, o1⟩, fun k k0 k1 => ?_⟩
      · rw [show upd2 g2 1 15 (m 171 7 + 1) a j = g2 a j from if_neg (fun z => hn (by unfold cR; omega)), o2 a j (by unfold cR at hn; omega)]
      · rw [g15] at k1 ⊢
        have tk := aT_hi (g := g) (k := k)
        rw [ea, if_neg c]
        by_cases z : k = m 171 7 + 1 - 1
        · rw [if_pos z, show k = m 171 7 by omega]
          exact h2.fr fun a j a0 a1 => upd2_ne (by omega)
        · rw [if_neg z, Int.add_zero]
          have hk := (h4 k k0 (by omega)).1
          have ne := mod_ne (a := g 1 14) k0 (by omega) n0 (show m 171 7 < 12 by omega) (show k ≠ m 171 7 by omega)
          refine hk.fr fun a j a0 a1 => ?_
          rw [upd2_ne (by omega), o2 a j]
          unfold aT at a0 a1 t ⊢
          omega
  · have c := Decidable.not_not.mp c
    rw [iRem_nn (by omega) (by omega) (by decide) (by decide)] at e3
    have f15 : g3 1 15 = 12 := by rw [e3, upd2_nj (by decide), e15, c]
    rw [f15]
    have f14 : g3 1 14 = (g 1 14 + 1) % 12 := by rw [e3, upd2_eq]
    have p14 : upd2 g3 1 15 (12 - 1) 1 14 = (g 1 14 + 1) % 12 := by rw [upd2_nj (by decide), f14]
    have p15 : upd2 g3 1 15 (12 - 1) 1 15 = 11 := upd2_eq
    have pn : ∀ a j, ¬ (a = 1 ∧ (j = 14 ∨ j = 15)) → upd2 g3 1 15 (12 - 1) a j = g a j := fun a j hn => by
      rw [show upd2 g3 1 15 (12 - 1) a j = g3 a j from if_neg (fun z => hn ⟨z.2, Or.inr z.1⟩), e3]
      exact if_neg (fun z => hn ⟨z.2, Or.inl z.1⟩)
    rw [p15]
    generalize upd2 g3 1 15 (12 - 1) = g4 at p14 p15 pn ⊢
    have m0 := Int.emod_nonneg (g 1 14 + 1) (show (12 : Int) ≠ 0 by decide)
    have m1 := Int.emod_lt_of_pos (g 1 14 + 1) (show (0 : Int) < 12 by decide)
    have h4' : HRel g4 8 (m 172) := h1.1.fr fun a j a0 a1 => pn a j (by omega)
    refine k_actAt (by omega) (by omega) (by decide) (by decide) (bR_in ⟨fun z => ?_, fun _ => ?_⟩)
    · have := (aT_hi (g := g4) (k := 11)).2; omega
    · have t := aT_hi (g := g4) (k := 11)
      refine ⟨t.1, k_copy t.1 h4' h1.2.1 (by omega) fun g2 h2 o2 => bV_in (kk _ ?_)⟩
      have f15 : g2 1 15 = 11 := by rw [o2 _ _ (by omega), p15]
      have f14 : g2 1 14 = (g 1 14 + 1) % 12 := by rw [o2 _ _ (by omega), p14]
      rw [f15]
      have g14 : upd2 g2 1 15 (11 + 1) 1 14 = (g 1 14 + 1) % 12 := by rw [upd2_nj (by decide), f14]
      have g15 : upd2 g2 1 15 (11 + 1) 1 15 = 12 := upd2_eq
      have ea : ∀ k, aT (upd2 g2 1 15 (11 + 1)) k = aT g4 k := fun k => by unfold aT; rw [g14, p14]
      refine ⟨fun a j hn => ?_, by rw [g15, if_pos c], by rw [g14]; exact ⟨m0, m1⟩, fun k k0 k1 => ?_⟩
      · rw [show upd2 g2 1 15 (11 + 1) a j = g2 a j from if_neg (fun z => hn (by unfold cR; omega)), o2 a j (by unfold cR at hn; omega), pn a j (by unfold cR at hn; omega)]
      · rw [g15] at k1 ⊢
        have tk := aT_hi (g := g4) (k := k)
        rw [ea, if_pos c]
        by_cases z : k = 12 - 1
        · rw [if_pos z, show k = 11 by omega]
          exact h2.fr fun a j a0 a1 => upd2_ne (by omega)
        · rw [if_neg z]
          have hk := (h4 (k + 1) (by omega) (by omega)).1
          have et : aT g (k + 1) = aT g4 k := by
            unfold aT
            rw [p14]
            omega
          rw [et] at hk
          have ne := mod_ne (a := g4 1 14) k0 (by omega) (show (0 : Int) ≤ 11 by decide) (by decide) (show k ≠ 11 by omega)
          refine hk.fr fun a j a0 a1 => ?_
          rw [upd2_ne (by omega), o2 a j (by unfold aT at a0 a1 t ⊢; omega), pn a j (by omega)]
/-- an act is done: what is remembered and what is now -/
theorem act_CA {g1 g2 : GG} {V' : VV} (h : CRel g m) (r : RemC g g1 m) (hv : CS g2 V' V') (z : ZQ V') (e2 : V' 2 = m 172 2) (o : ∀ a j, cX a j → ¬ (8 ≤ a ∧ a ≤ 16) → g2 a j = g1 a j) : CA g2 m V' := by
  intro m' ⟨a1, a2, a3, ⟨a6, a9, a14⟩, a7, a8⟩
  obtain ⟨⟨h1, hz⟩, ⟨⟨e15, n0, n1⟩, ⟨o0, o1⟩, h4⟩, ⟨h5, h6, h7⟩, ⟨h8, h9⟩, h10⟩ := h
  obtain ⟨r1, r2, r3, r4⟩ := r
  have q : ∀ a j, cX a j → ¬ (8 ≤ a ∧ a ≤ 16) → ¬ cR a j → g2 a j = g a j := fun a j c1 c2 c3 => by rw [o a j c1 c2, r1 a j c3]
  have p15 : g2 1 15 = m' 171 7 := by rw [o _ _ (by unfold cX; omega) (by omega), r2, a7]
  have p14 : g2 1 14 = g1 1 14 := o _ _ (by unfold cX; omega) (by omega)
  have ea : ∀ k, aT g2 k = aT g1 k := fun k => by unfold aT; rw [p14]
  refine ⟨⟨by rw [a1]; exact hv, by rw [a1]; exact z⟩, ⟨⟨p15, ?_, ?_⟩, by rw [p14]; exact r3, fun k k0 k1 => ?_⟩, ⟨?_, by rw [a6]; exact h6, fun w => ?_⟩, ⟨⟨?_, by rw [a9]; exact h8.2.1, by rw [a9]; exact h8.2.2⟩, fun i i0 i1 => ?_⟩, ?_⟩
  · rw [a7]
    by_cases c : m 171 7 = 12
    · rw [if_pos c]; decide
    · rw [if_neg c]; omega
  · rw [a7]
    by_cases c : m 171 7 = 12
    · rw [if_pos c]; decide
    · rw [if_neg c]; omega
  · have ak := a8 k k0 k1
    have r2' : g1 1 15 = m' 171 7 := by rw [r2, a7]
    have hk := r4 k k0 (by omega)
    rw [r2'] at hk
    have t := aT_hi (g := g1) (k := k)
    rw [a1, e2]
    by_cases c : k = m' 171 7 - 1
    · rw [if_pos c] at hk
      have ee : ∀ j, 0 ≤ j → j < 486 → aV m' k j = m 172 j := fun j j0 j1 => by rw [ak j j0 j1, if_pos c]
      refine ⟨?_, h1.2.1.cg9 ee, hz.cg h1.2.1 ee, ee 2 (by decide) (by decide)⟩
      rw [ea]
      exact (hk.fr fun a j b0 b1 => o a j (by unfold cX; omega) (by omega)).cg h1.2.1 ee
    · rw [if_neg c] at hk
      have kr : 0 ≤ k + (if m 171 7 = 12 then 1 else 0) ∧ k + (if m 171 7 = 12 then 1 else 0) < m 171 7 := by
        by_cases c2 : m 171 7 = 12
        · rw [if_pos c2] at a7 ⊢; omega
        · rw [if_neg c2] at a7 ⊢; omega
      have hq := h4 _ kr.1 kr.2
      have ee : ∀ j, 0 ≤ j → j < 486 → aV m' k j = aV m (k + (if m 171 7 = 12 then 1 else 0)) j := fun j j0 j1 => by rw [ak j j0 j1, if_neg c]
      refine ⟨?_, hq.2.1.cg9 ee, hq.2.2.1.cg hq.2.1 ee, (ee 2 (by decide) (by decide)).trans hq.2.2.2⟩
      rw [ea]
      exact (hk.fr fun a j b0 b1 => o a j (by unfold cX; omega) (by omega)).cg hq.2.1 ee
  · rw [q _ _ (by unfold cX; omega) (by omega) (by unfold cR; omega), a6]; exact h5
  · rw [a6] at w
    have hq := h7 w
    rw [a2]
    exact ⟨hq.1.fr fun a j b0 b1 => q a j (by unfold cX; omega) (by omega) (by unfold cR; omega), hq.2.1, hq.2.2.1, hq.2.2.2.1.frt (fun j hj => q _ _ (by unfold cX; omega) (by omega) (by unfold cR; omega)) (fun j => q _ _ (by unfold cX; omega) (by omega) (by unfold cR; omega)), hq.2.2.2.2⟩
  · rw [q _ _ (by unfold cX; omega) (by omega) (by unfold cR; omega), a9]; exact h8.1
  · rw [q _ _ (by unfold cX; omega) (by omega) (by unfold cR; omega), a3]; exact h9 i i0 i1
  · rw [q _ _ (by unfold cX; omega) (by omega) (by unfold cR; omega), a14]; exact h10
end RM
