/-! ACTS: remembered by the reference; the acts themselves, both sides -/
section RM2
variable {Γ : Cfg} {l : Launch} {d b : Nat} {g m : GG} {K : Ou → HP → Prop} {V : VV}
/-- remembered by the reference -/
def RemM (g g1 : GG) : Prop :=
  (∀ a j, a ≠ 176 → ¬ (a = 171 ∧ (j = 7 ∨ j = 0)) → g1 a j = g a j) ∧ g1 171 7 = (if g 171 7 = 12 then 12 else g 171 7 + 1) ∧
  ∀ k, 0 ≤ k → k < g1 171 7 → ∀ j, 0 ≤ j → j < 486 → aV g1 k j = if k = g1 171 7 - 1 then g 172 j else aV g (k + (if g 171 7 = 12 then 1 else 0)) j
theorem RemM.ac {g1 g2 : GG} {V' : VV} (r : RemM g g1) (hv : g2 172 = V') (o : ∀ a j, mX a j → a ≠ 172 → g2 a j = g1 a j) : AC g g2 V' := by
  obtain ⟨r1, r2, r3⟩ := r
  have e7 : g2 171 7 = g1 171 7 := o _ _ (by unfold mX; omega) (by decide)
  refine ⟨hv, funext fun j => ?_, fun i => ?_, ⟨?_, ?_, ?_⟩, by rw [e7, r2], fun k k0 k1 j j0 j1 => ?_⟩
  · rw [o _ _ (by unfold mX; omega) (by decide), r1 _ _ (by decide) (by omega)]
  · rw [o _ _ (by unfold mX; omega) (by decide), r1 _ _ (by decide) (by omega)]
  · rw [o _ _ (by unfold mX; omega) (by decide), r1 _ _ (by decide) (by omega)]
  · rw [o _ _ (by unfold mX; omega) (by decide), r1 _ _ (by decide) (by omega)]
  · rw [o _ _ (by unfold mX; omega) (by decide), r1 _ _ (by decide) (by omega)]
  · rw [e7] at k1 ⊢
    rw [← r3 k k0 k1 j j0 j1]
    exact o _ _ (by unfold mX; omega) (by decide)
theorem m_rem55 {n : Int} (n0 : 0 ≤ n) (n1 : n ≤ 11) (e7 : g 171 7 = n + 1) (kk : ∀ g', (∀ a j, a ≠ 176 → g' a j = g a j) → (∀ j, 0 ≤ j → j < 486 → g' 176 (486 * n + j) = g 172 j) → (∀ i, i < 486 * n → g' 176 i = g 176 i) → K (.inl vU) (stt g')) : AW Γ l mX12_remembers d b 55 [vR 171, vI 0] [] (stt g) K := by
  refine up_loop (P := fun i => ∀ g', (∀ a j, a ≠ 176 → g' a j = g a j) → (∀ j, 0 ≤ j → j < (i : Int) → g' 176 (486 * n + j) = g 172 j) → (∀ j, j < 486 * n → g' 176 j = g 176 j) → AW Γ l mX12_remembers d b 55 [vR 171, vI i] [] (stt g') K) (N := 486) (fun g' o f q => ?_) (fun i hi9 hi g' o f q => ?_) 0 (Nat.zero_le _) g (fun _ _ _ => rfl) (fun j j0 j1 => absurd j1 (by omega)) (fun _ _ => rfl)
  · apply wpX12_remembers_55
    exact ⟨fun _ => kk g' o f q, fun c => absurd (show 486 ≤ wr ((486 : Nat) : Int) by decide +kernel) c⟩
  · apply wpX12_remembers_55
    rw [o _ _ (by decide), e7, wr_id (x := (i : Int)) (by omega) (by omega), show 486 * (n + 1 - 1) + (i : Int) = 486 * n + i by omega, wr_id (x := 486 * n + (i : Int)) (by omega) (by omega)]
    refine ⟨fun c => absurd c (by omega), fun _ => ⟨by omega, by omega, fun g1 e1 => hi g1 (fun a j ha => by rw [e1, upd2_ne ha, o a j ha]) (fun j j0 j1 => ?_) (fun j hj => by rw [e1, upd2_nj (by omega), q j hj])⟩⟩
    by_cases c : j = i
    · rw [e1, c, upd2_eq, o _ _ (by decide)]
    · rw [e1, upd2_nj (by omega), f j j0 (by omega)]
theorem m_remember (n0 : 0 ≤ g 171 7) (n1 : g 171 7 ≤ 12) (kk : ∀ g1, RemM g g1 → g1 171 0 = g 171 0 → K (.inl vU) (stt g1)) : Ct Γ l d b yX12_remembers mX12_remembers [vR 171] (stt g) K := by
  apply wpX12_remembers
  rw [wr_id (x := g 171 7) (by omega) (by omega)]
  refine ⟨fun c => ?_, fun c => ?_⟩
  · refine m_rem55 (n := g 171 7) n0 (by omega) upd2_eq fun g' o f q => kk g' ⟨fun a j ha hj => ?_, ?_, fun k k0 k1 j j0 j1 => ?_⟩ ?_
    · rw [o a j ha]
      exact if_neg (fun z => hj ⟨z.2, Or.inl z.1⟩)
    · rw [o _ _ (by decide), upd2_eq, if_neg c]
    · have e7 : g' 171 7 = g 171 7 + 1 := by rw [o _ _ (by decide), upd2_eq]
      rw [e7] at k1 ⊢
      rw [if_neg c]
      show g' 176 (486 * k + j) = _
      by_cases x : k = g 171 7 + 1 - 1
      · rw [if_pos x, show k = g 171 7 by omega, f j j0 j1, upd2_ne (by decide)]
      · rw [if_neg x, q _ (by omega), upd2_ne (by decide), Int.add_zero]; rfl
    · rw [o _ _ (by decide), upd2_nj (by decide)]
  · have c := Decidable.not_not.mp c
    refine up_loop (P := fun i => ∀ g', (∀ a j, a ≠ 176 → g' a j = g a j) → (∀ j, 0 ≤ j → j < (i : Int) → g' 176 j = g 176 (j + 486)) → (∀ j, (i : Int) ≤ j → g' 176 j = g 176 j) → AW Γ l mX12_remembers d b 11 [vR 171, vI i] [] (stt g') K) (N := 5346) (fun g' o f q => ?_) (fun i hi9 hi g' o f q => ?_) 0 (Nat.zero_le _) g (fun _ _ _ => rfl) (fun j j0 j1 => absurd j1 (by omega)) (fun _ _ => rfl)
    · apply wpX12_remembers_11
      refine ⟨fun _ => ?_, fun c => absurd (show 5346 ≤ wr ((5346 : Nat) : Int) by decide +kernel) c⟩
      refine m_rem55 (n := 11) (by decide) (by decide) (by rw [o _ _ (by decide), c]; rfl) fun g2 o2 f2 q2 => kk g2 ⟨fun a j ha hj => by rw [o2 a j ha, o a j ha], by rw [o2 _ _ (by decide), o _ _ (by decide), if_pos c, c], fun k k0 k1 j j0 j1 => ?_⟩ (by rw [o2 _ _ (by decide), o _ _ (by decide)])
      have e7 : g2 171 7 = 12 := by rw [o2 _ _ (by decide), o _ _ (by decide), c]
      rw [e7] at k1 ⊢
      rw [if_pos c]
      show g2 176 (486 * k + j) = _
      by_cases x : k = 12 - 1
      · rw [if_pos x, show k = 11 by omega, f2 j j0 j1, o _ _ (by decide)]
      · rw [if_neg x, q2 _ (by omega), f _ (by omega) (by omega)]
        show g 176 (486 * k + j + 486) = g 176 (486 * (k + 1) + j)
        rw [show 486 * k + j + 486 = 486 * (k + 1) + j by omega]
    · apply wpX12_remembers_11
      rw [wr_id (x := (i : Int)) (by omega) (by omega), wr_id (x := (i : Int) + 486) (by omega) (by omega)]
      refine ⟨fun c => absurd c (by omega), fun _ => ⟨by omega, by omega, fun g1 e1 => hi g1 (fun a j ha => by rw [e1, upd2_ne ha, o a j ha]) (fun j j0 j1 => ?_) (fun j hj => by rw [e1, upd2_nj (by omega), q j (by omega)])⟩⟩
      by_cases x : j = i
      · rw [e1, x, upd2_eq, q _ (by omega)]
      · rw [e1, upd2_nj x, f j j0 (by omega)]
/-- how an act ends in the class, and in the reference -/
def uC (g g' : GG) : Prop := ∀ a j, 171 ≤ a → g' a j = g a j
def uM (g g' : GG) : Prop := ∀ a j, (a < 171 ∨ 190 ≤ a) → g' a j = g a j
def aC (L : List String) (m g : GG) (s : Int × Int) (V' : VV) (K : Ou → HP → Prop) : Prop := ∀ g', uC g g' → (s.1 = 0 → CA g' m V') → (s.1 ≠ 0 → CRel g' m) → K (oc L s) (stt g')
def aM (g : GG) (s : Int × Int) (V' : VV) (K : Ou → HP → Prop) : Prop := ∀ g', uM g g' → (s.1 = 0 → AC g g' V') → (s.1 ≠ 0 → kM g g') → g' 171 0 = s.1 → K (.inl (vI s.2)) (stt g')
theorem Rel9.act {g g1 g2 : GG} {s : Int × Int} {V' : VV} (h1 : uC g g1) (a1 : s.1 = 0 → CA g1 g V') (a2 : s.1 ≠ 0 → CRel g1 g) (h2 : uM g1 g2) (b1 : s.1 = 0 → AC g1 g2 V') (b2 : s.1 ≠ 0 → kM g1 g2) : Rel9 g2 := by
  have eq : ∀ a j, cX a j → g2 a j = g1 a j := fun a j hx => h2 a j (by unfold cX at hx; omega)
  by_cases c : s.1 = 0
  · have ac := b1 c
    have ac' : AC g g2 V' := by
      obtain ⟨c1, c2, c3, ⟨c6, c9, c14⟩, c7, c8⟩ := ac
      have e7 : g1 171 7 = g 171 7 := h1 _ _ (by decide)
      refine ⟨c1, by rw [c2]; exact funext fun j => h1 _ _ (by decide), fun i => by rw [c3, h1 _ _ (by decide)], ⟨by rw [c6, h1 _ _ (by decide)], by rw [c9, h1 _ _ (by decide)], by rw [c14, h1 _ _ (by decide)]⟩, by rw [c7, e7], fun k k0 k1 j j0 j1 => ?_⟩
      rw [c8 k k0 k1 j j0 j1, e7, h1 172 j (by decide)]
      by_cases x : k = g2 171 7 - 1
      · rw [if_pos x, if_pos x]
      · rw [if_neg x, if_neg x]
        exact h1 _ _ (by decide)
    exact (a1 c g2 ac').cong eq (fun _ _ _ => rfl)
  · exact (a2 c).cong eq (fun a j hx => by rw [b2 c a j (by unfold mX at hx; unfold mS; omega), h1 a j (by unfold mX at hx; omega)])
theorem aC_ok {L : List String} {s : Int × Int} {V' : VV} {v : Int} {g' : GG} (kk : aC L m g s V' K) (e : s = (0, v)) (u : uC g g') (h : CA g' m V') : K (.inl (vI v)) (stt g') :=
  oc_ok (kk g' u (fun _ => h) (fun c => absurd (by rw [e]) c)) e
theorem aC_th {L : List String} {s : Int × Int} {V' : VV} {c : Int} {E : String} (kk : aC L m g s V' K) (e : s = (c, 0)) (hc : c ≠ 0) (hE : exn L c = E) (h : CRel g m) : K (.inr E) (stt g) :=
  oc_th (kk g (fun _ _ _ => rfl) (fun z => absurd (by rw [e] at z; exact z) hc) (fun _ => h)) e hc hE
theorem aM_ok {s : Int × Int} {V' : VV} {v : Int} {g' : GG} (kk : aM g s V' K) (e : s = (0, v)) (u : uM g g') (h : AC g g' V') (z : g' 171 0 = 0) : K (.inl (vI v)) (stt g') := by
  subst e
  exact kk g' u (fun _ => h) (fun c => absurd rfl c) z
theorem aM_th {s : Int × Int} {V' : VV} {c : Int} (kk : aM g s V' K) (e : s = (c, 0)) (hc : c ≠ 0) : K (.inl (vI 0)) (stt (upd2 (upd2 g 171 0 0) 171 0 c)) := by
  subst e
  refine kk _ (fun a j ha => ?_) (fun z => absurd z hc) (fun _ => kM.th.tr kM.th) th_z
  rw [upd2_ne (by omega), upd2_ne (by omega)]
theorem kMk {g g' : GG} (h : kM g g') : uM g g' := fun a j ha => h a j (by unfold mS; omega)
theorem RemM.th {g g1 g0 : GG} (e0 : g0 = upd2 g 171 0 0) (r : RemM g0 g1) (hz : g1 171 0 = g0 171 0) : RemM g g1 ∧ g1 171 0 = 0 ∧ g1 172 = g 172 := by
  have e : ∀ a j, ¬ (a = 171 ∧ j = 0) → g0 a j = g a j := fun a j hn => by rw [e0]; exact if_neg (fun z => hn ⟨z.2, z.1⟩)
  obtain ⟨r1, r2, r3⟩ := r
  have e7 : g0 171 7 = g 171 7 := e _ _ (by omega)
  refine ⟨⟨fun a j h1 h2 => ?_, by rw [r2, e7], fun k k0 k1 j j0 j1 => ?_⟩, ?_, funext fun j => ?_⟩
  · rw [r1 a j h1 h2, e a j (by omega)]
  · rw [r3 k k0 k1 j j0 j1, e7, e 172 j (by omega)]
    by_cases x : k = g1 171 7 - 1
    · rw [if_pos x, if_pos x]
    · rw [if_neg x, if_neg x]
      exact e _ _ (by omega)
  · rw [hz, e0, upd2_eq]
  · rw [r1 _ _ (by decide) (by omega), e _ _ (by omega)]
end RM2
