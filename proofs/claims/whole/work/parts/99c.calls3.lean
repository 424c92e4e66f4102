/-! CALL BY CALL: feed, hills, law -/
section PCT
variable {Γ : Cfg} {l : Launch} {d : Nat} {g : GG}
theorem p_feed {x1 x2 x3 x4 x5 : Int} (h : Rel9 g) : Pr0 (fun K => Ct Γ l (d + 2) 0 yX11_feed mX11_feed [vR 1, vI x1, vI x2, vI x3, vI x4, vI x5] (stt g) K) (fun g2 K => Ct Γ l d 0 yX12_feed mX12_feed [vR 171, vI x1, vI x2, vI x3, vI x4, vI x5] (stt g2) K) := by
  intro A hA
  have m0 := h.2.2.2.1.1.2.1
  have m1 := h.2.2.2.1.1.2.2
  refine k_feed h (fun c => ⟨_, g, ⟨rfl, rfl⟩, hA _ _ fun g2 B e hB => ?_⟩) (fun c g1 f1 z1 b1 => ⟨_, g1, ⟨rfl, rfl⟩, hA _ _ fun g2 B e hB => ?_⟩)
  · have e9 : g2 171 9 = g 171 9 := e _ _ (by decide)
    refine m_feed (by omega) (by omega) (fun _ g3 f => ⟨_, g3, ⟨rfl, rfl⟩, hB _ (CRel.cong h (fun a j hx => by have := cX_190 hx; rw [f a j (by omega), e a j (by omega)]) (fun a j hx => by
      have := mX_190 hx
      rw [f a j (by unfold mX at hx; omega), e a j this.1])) fun j => f _ _ (by omega)⟩) (fun q => absurd q (by omega))
  · have hi : ∀ a j, 171 ≤ a → a < 190 → g2 a j = g a j := fun a j h1 h2 => by rw [e a j h2, f1 a j (by omega) (by omega)]
    have e9 : g2 171 9 = g 171 9 := hi _ _ (by decide) (by decide)
    refine m_feed (by omega) (by omega) (fun q => absurd q (by omega)) (fun _ g3 f3 z3 b3 => ⟨_, g3, ⟨rfl, rfl⟩, ?_⟩)
    rw [e9] at f3 z3 b3 ⊢
    refine hB _ (rel_fin (CRel.tap h (fun a j _ n1 n2 => f1 a j n1 (by omega)) (fun a j hx hn => ?_) ⟨by omega, by omega, by omega⟩ fun i i0 i1 => ?_) e fun a j ha => f3 a j (by omega) (by omega) (by omega)) fun j => f3 _ _ (by omega) (by decide) (by omega)
    · have hn : ¬ (a = 177 ∨ (a = 171 ∧ j = 9)) := hn
      have := mX_190 hx
      rw [f3 a j (by unfold mX at hx; omega) (by unfold mX at hx; omega) (by omega), hi a j this.2 this.1]
    · by_cases q : g 171 9 ≤ i ∧ i < g 171 9 + 20
      · have a1 := b1 (i - g 171 9) (by omega) (by omega)
        have a3 := b3 (i - g 171 9) (by omega) (by omega)
        rw [show g 171 9 + (i - g 171 9) = i by omega] at a1 a3
        rw [a1, a3]
        exact ⟨byS_rng _ _, rfl⟩
      · rw [f1 3 i (by omega) (by omega), f3 177 i (by omega) (by decide) (by omega), hi _ _ (by decide) (by decide)]
        exact h.2.2.2.1.2 i i0 i1
theorem mEq9 {g g1 g2 g3 : GG} {P : Int → Int → Prop} (u : uC g g1) (e : lo9 g1 g2) (q : mEq g2 g3 P) : mEq g g3 P := fun a j hx hn => by
  have := mX_190 hx
  rw [q a j hx hn, uhi u e this.2 this.1]
theorem p_hills (h : Rel9 g) : Pr [eIA, eUO] (fun K => Ct Γ l (d + 9) 1 yX11_hills mX11_hills [vR 1] (stt g) K) (fun g2 K => Ct Γ l (d + 12) 0 yX12_hills mX12_hills [vR 171] (stt g2) K) := by
  intro A hA
  have mb := h.tb.2
  have fin : ∀ g1 g2 n S P N, uC g g1 → lo9 g1 g2 → TS (g 3) (g 171 9) n S P N → ∀ (K : Ou → HP → Prop),
      (¬ (hiR S N (g 172)).1 = true → ∀ g', uM g2 g' → mEq g2 g' (fun a j => a = 171 ∧ (j = 9 ∨ j = 14)) → g' 171 0 = 1 → g' 171 9 = 0 → g' 171 14 = P (hiR S N (g 172)).2.1 → K (.inl (vI 0)) (stt g')) →
      ((hiR S N (g 172)).1 = true → g 172 1 = 12 → ∀ g', uM g2 g' → mEq g2 g' (fun a j => a = 171 ∧ (j = 9 ∨ j = 14)) → g' 171 0 = 2 → g' 171 9 = 0 → g' 171 14 = -1 → K (.inl (vI 0)) (stt g')) →
      ((hiR S N (g 172)).1 = true → g 172 1 ≠ 12 → ∀ g', uM g2 g' → g' 172 = upV (hiR S N (g 172)).2.2 1 (g 172 1 + 1) → mEq g2 g' (fun a j => a = 172 ∨ (a = 171 ∧ (j = 7 ∨ j = 9 ∨ j = 14))) → g' 171 0 = 0 → g' 171 7 = 0 → g' 171 9 = 0 → g' 171 14 = -1 → K (.inl (vI (g 172 1 + 1))) (stt g')) → Ct Γ l (d + 12) 0 yX12_hills mX12_hills [vR 171] (stt g2) K := fun g1 g2 n S P N u e ts K kf ku kk =>
    m_hills (V := g 172) h.1.1.2.1 h.1.2 ts (fun i i0 i1 => by rw [uhi u e (by decide) (by decide)]; exact mb.2 i i0 i1) (uhi u e (by decide) (by decide)) (funext fun j => uhi u e (by decide) (by decide)) kf ku kk
  refine k_hills h (Nat.le_refl _) (fun g1 n S P N ts hr u c => ⟨1, 0, g1, ⟨rfl, rfl⟩, hA _ _ _ (by decide) (by decide) fun g2 B e hB => ?_⟩) (fun g1 n S P N ts hr h12 u c => ⟨2, 0, g1, ⟨rfl, rfl⟩, hA _ _ _ (by decide) (by decide) fun g2 B e hB => ?_⟩) (fun g1 n S P N ts hr h12 u c => ⟨0, _, g1, ⟨rfl, rfl⟩, hA _ _ _ (by decide) (by decide) fun g2 B e hB => ?_⟩)
  · exact fin g1 g2 n S P N u e ts _ (fun _ g3 um q z0 z9 z14 => ⟨0, g3, ⟨rfl, rfl⟩, hB _ _ (rel_fin (c g3 (mEq9 u e q) z9 z14) e fun a j ha => um a j (Or.inl ha)) z0 (fun x => absurd x (by decide)) fun j => um _ _ (Or.inr (by decide))⟩) (fun x => absurd x hr) (fun x => absurd x hr)
  · exact fin g1 g2 n S P N u e ts _ (fun x => absurd hr x) (fun _ _ g3 um q z0 z9 z14 => ⟨0, g3, ⟨rfl, rfl⟩, hB _ _ (rel_fin (c g3 (mEq9 u e q) z9 z14) e fun a j ha => um a j (Or.inl ha)) z0 (fun x => absurd x (by decide)) fun j => um _ _ (Or.inr (by decide))⟩) (fun _ x => absurd h12 x)
  · exact fin g1 g2 n S P N u e ts _ (fun x => absurd hr x) (fun _ x => absurd x (by omega)) (fun _ _ g3 um v q z0 z7 z9 z14 => ⟨_, g3, ⟨rfl, rfl⟩, hB _ _ (rel_fin (c g3 v (mEq9 u e q) z7 z9 z14) e fun a j ha => um a j (Or.inl ha)) z0 (fun _ => rfl) fun j => um _ _ (Or.inr (by decide))⟩)
theorem p_law (h : Rel9 g) : Pr [eIA] (fun K => Ct Γ l (d + 26) 1 yX11_law mX11_law [vR 1] (stt g) K) (fun g2 K => Ct Γ l (d + 32) 0 yX12_law mX12_law [vR 171] (stt g2) K) := by
  intro A hA
  have mb := h.tb.2
  have tp : ∀ {g1 g2 : GG}, uC g g1 → lo9 g1 g2 → MTp g2 (g 3) := fun u e i i0 i1 => by rw [uhi u e (by decide) (by decide)]; exact mb.2 i i0 i1
  refine k_law (F := 2410) (Nat.le_refl _) h (Nat.le_refl _) (fun g1 n S P N ts hr u c => ⟨1, 0, g1, ⟨rfl, rfl⟩, hA _ _ _ (by decide) (by decide) fun g2 B e hB => ?_⟩) (fun g1 n S P N ts hr u c => ⟨0, _, g1, ⟨rfl, rfl⟩, hA _ _ _ (by decide) (by decide) fun g2 B e hB => ?_⟩)
  · refine m_law ts (F := 2410) (Nat.le_refl _) (tp u e) (uhi u e (by decide) (by decide)) (fun _ g3 um q v z0 z9 z14 => ⟨0, g3, ⟨rfl, rfl⟩, hB _ _ (rel_fin (c g3 (mEq9 u e q) (fun j hj => by rw [v j hj]; exact uhi u e (by decide) (by decide)) z9 z14) e fun a j ha => um a j (Or.inl ha)) z0 (fun x => absurd x (by decide)) fun j => um _ _ (Or.inr (by decide))⟩) (fun x => absurd x hr)
  · refine m_law ts (F := 2410) (Nat.le_refl _) (tp u e) (uhi u e (by decide) (by decide)) (fun x => absurd hr x) (fun _ g3 um v q z0 z7 z9 z14 => ⟨_, g3, ⟨rfl, rfl⟩, hB _ _ (rel_fin (c g3 ?_ (mEq9 u e q) z7 z9 z14) e fun a j ha => um a j (Or.inl ha)) z0 (fun _ => rfl) fun j => um _ _ (Or.inr (by decide))⟩)
    have e9 : g2 172 = g 172 := funext fun j => uhi u e (by decide) (by decide)
    rw [e9] at v
    exact v
end PCT
