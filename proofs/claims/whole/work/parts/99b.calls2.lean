/-! CALL BY CALL: the others -/
section PCO
variable {Γ : Cfg} {l : Launch} {d : Nat} {g : GG}
theorem mixC {g g1 g2 : GG} (c1 : kC g g1) (e : lo9 g1 g2) : kC (mixG g g2) g2 := fun a j hx => by
  by_cases q : a < 190
  · rw [mix_lo q, e a j q, c1 a j hx]
  · rw [mix_hi q]
theorem ask_rel {g g1 g2 g3 : GG} (h : Rel9 g) (c1 : kC g g1) (e : lo9 g1 g2) (m3 : kM g2 g3) : Rel9 g3 := ((mix_rel h).ask (mixC c1 e) kM.rf).ask kC.rf m3
theorem ask_v {g g1 g2 : GG} (c1 : kC g g1) (e : lo9 g1 g2) : g2 172 = g 172 := funext fun j => by rw [e _ _ (by decide), c1 _ _ (Or.inl (by decide))]
theorem kM190 {g2 g3 : GG} (m3 : kM g2 g3) (j : Int) : g3 190 j = g2 190 j := m3 _ _ (Or.inr (Or.inl (by decide)))
theorem p_order {p k : Int} (h : Rel9 g) (hp : wr p = p) (hk : wr k = k) : Pr [eIO] (fun K => Ct Γ l (d + 14) 1 yX11_order mX11_order [vR 1, vI p, vI k] (stt g) K) (fun g2 K => Ct Γ l (d + 9) 0 yX12_order mX12_order [vR 171, vI p, vI k] (stt g2) K) := by
  intro A hA
  refine k_order h.1.1 (Nat.le_refl _) hp hk (fun hn => ⟨1, 0, g, ⟨rfl, rfl⟩, hA _ _ _ (by decide) (by decide) fun g2 B e hB => ?_⟩) (fun p0 p1 hu g1 Nn c1 hb => ⟨0, oAns (g 172) p k Nn, g1, ⟨rfl, rfl⟩, hA _ _ _ (by decide) (by decide) fun g2 B e hB => ?_⟩) (fun p0 p1 hu g1 c1 => ⟨0, -1, g1, ⟨rfl, rfl⟩, hA _ _ _ (by decide) (by decide) fun g2 B e hB => ?_⟩)
  · exact m_order (V := g 172) (ask_v kC.rf e) h.1.1.2.1 h.1.1.2.2.2 hp hk (fun _ g3 m3 z => ⟨0, g3, ⟨rfl, rfl⟩, hB _ _ (ask_rel h kC.rf e m3) z (fun c => absurd c (by decide)) (kM190 m3)⟩) (fun a b => absurd ⟨a, b⟩ hn) (fun a b => absurd ⟨a, b⟩ hn)
  · exact m_order (V := g 172) (ask_v c1 e) h.1.1.2.1 h.1.1.2.2.2 hp hk (fun hn => absurd ⟨p0, p1⟩ hn) (fun _ _ _ g3 N3 m3 z hb3 => ⟨_, g3, ⟨rfl, rfl⟩, hB _ _ (ask_rel h c1 e m3) z (fun _ => by rw [bestO_one hb3 hb]) (kM190 m3)⟩) (fun _ _ hn => absurd hu hn)
  · exact m_order (V := g 172) (ask_v c1 e) h.1.1.2.1 h.1.1.2.2.2 hp hk (fun hn => absurd ⟨p0, p1⟩ hn) (fun _ _ hn => absurd hn hu) (fun _ _ _ g3 m3 z => ⟨_, g3, ⟨rfl, rfl⟩, hB _ _ (ask_rel h c1 e m3) z (fun _ => rfl) (kM190 m3)⟩)
theorem p_peace (h : Rel9 g) : Pr0 (fun K => Ct Γ l (d + 7) 0 yX11_peace mX11_peace [vR 1] (stt g) K) (fun g2 K => Ct Γ l (d + 8) 0 yX12_peace mX12_peace [vR 171] (stt g2) K) := by
  intro A hA
  refine k_peace h.1.1 h.1.2.1 fun g1 r c1 hb => ⟨_, g1, ⟨rfl, rfl⟩, hA _ _ fun g2 B e hB => ?_⟩
  refine m_peace (V := g 172) (ask_v c1 e) h.1.1.2.1 h.1.1.2.2.2 h.1.2.1 fun g3 r3 m3 hb3 => ⟨r3, g3, ⟨rfl, rfl⟩, ?_⟩
  rw [bestP_one hb3 hb]
  exact hB _ (ask_rel h c1 e m3) (kM190 m3)
theorem p_quiet (h : Rel9 g) : Pr0 (fun K => Ct Γ l (d + 7) 0 yX11_quiet mX11_quiet [vR 1] (stt g) K) (fun g2 K => Ct Γ l (d + 8) 0 yX12_quiet mX12_quiet [vR 171] (stt g2) K) := by
  intro A hA
  refine k_quiet h.1.1 h.1.2.1 fun g1 r c1 hb => ⟨_, g1, ⟨rfl, rfl⟩, hA _ _ fun g2 B e hB => ?_⟩
  refine m_quiet (V := g 172) (ask_v c1 e) h.1.1.2.1 h.1.1.2.2.2 h.1.2.1 fun g3 r3 m3 hb3 => ⟨r3, g3, ⟨rfl, rfl⟩, ?_⟩
  rw [bestQ_one hb3 hb]
  exact hB _ (ask_rel h c1 e m3) (kM190 m3)
theorem p_twins (h : Rel9 g) : Pr0 (fun K => Ct Γ l (d + 3) 0 yX11_twins mX11_twins [vR 1] (stt g) K) (fun g2 K => Ct Γ l (d + 4) 0 yX12_twins mX12_twins [vR 171] (stt g2) K) := by
  intro A hA
  refine k_twins h.1.1 fun g1 c1 => ⟨_, g1, ⟨rfl, rfl⟩, hA _ _ fun g2 B e hB => ?_⟩
  exact m_twins (V := g 172) (ask_v c1 e) h.1.1.2.1 fun g3 m3 => ⟨_, g3, ⟨rfl, rfl⟩, hB _ (ask_rel h c1 e m3) (kM190 m3)⟩
theorem p_count {w : Int} (h : Rel9 g) (hw : wr w = w) : Pr0 (fun K => Ct Γ l (d + 2) 0 yX11_count mX11_count [vR 1, vI w] (stt g) K) (fun g2 K => Ct Γ l (d + 3) 0 yX12_count mX12_count [vR 171, vI w] (stt g2) K) := by
  intro A hA
  refine k_count h.1.1 hw h.2.1.1.1 fun g1 c1 => ⟨_, g1, ⟨rfl, rfl⟩, hA _ _ fun g2 B e hB => ?_⟩
  exact m_count (V := g 172) (ask_v c1 e) h.1.1.2.1 h.1.1.2.2.2 hw (by rw [e _ _ (by decide), c1 _ _ (Or.inl (by decide))]) fun g3 m3 => ⟨_, g3, ⟨rfl, rfl⟩, hB _ (ask_rel h c1 e m3) (kM190 m3)⟩
theorem uhi {g g1 g2 : GG} (u : uC g g1) (e : lo9 g1 g2) {a j : Int} (h1 : 171 ≤ a) (h2 : a < 190) : g2 a j = g a j := by rw [e a j h2, u a j h1]
theorem p_seed {n : Int} (h : Rel9 g) : Pr0 (fun K => Ct Γ l d 0 yX11_seed mX11_seed [vR 1, vI n] (stt g) K) (fun g2 K => Ct Γ l d 0 yX12_seed mX12_seed [vR 171, vI n] (stt g2) K) := by
  intro A hA
  refine k_seed h fun g1 u1 c1 => ⟨_, g1, ⟨rfl, rfl⟩, hA _ _ fun g2 B e hB => ?_⟩
  have e9 : g2 172 = g 172 := funext fun j => uhi u1 e (by decide) (by decide)
  refine m_seed (V := g 172) e9 fun g3 v3 e3 => ⟨_, g3, ⟨rfl, rfl⟩, hB _ (rel_fin (c1 g3 v3 fun a j hx hn => ?_) e fun a j ha => e3 a j (by omega) (by omega)) fun j => e3 _ _ (by decide) (by omega)⟩
  have hn : ¬ a = 172 := hn
  have := mX_190 hx
  rw [e3 a j hn (by unfold mX at hx; omega), uhi u1 e this.2 this.1]
theorem p_undo (h : Rel9 g) : Pr0 (fun K => Ct Γ l (d + 2) 0 yX11_undo mX11_undo [vR 1] (stt g) K) (fun g2 K => Ct Γ l d 0 yX12_undo mX12_undo [vR 171] (stt g2) K) := by
  intro A hA
  refine k_undo h fun g1 u1 c0 c1 => ⟨_, g1, ⟨rfl, rfl⟩, hA _ _ fun g2 B e hB => ?_⟩
  have e7 : g2 171 7 = g 171 7 := uhi u1 e (by decide) (by decide)
  have n0 := h.2.1.1.2.1
  have n1 := h.2.1.1.2.2
  refine m_undo (by omega) (by omega) fun g3 f0 f1 => ⟨_, g3, ⟨rfl, rfl⟩, ?_⟩
  rw [e7] at f0 f1 ⊢
  by_cases q : g 171 7 = 0
  · refine hB _ ?_ fun j => f0 q _ _ (by omega)
    exact (c0 q).cong (fun a j hx => by have := cX_190 hx; rw [f0 q a j (by omega), e a j (by omega)]) (fun a j hx => by
      have := mX_190 hx
      rw [f0 q a j (by unfold mX at hx; omega), uhi u1 e this.2 this.1])
  · obtain ⟨b1, b2, b3, b4⟩ := f1 q
    refine hB _ (rel_fin (c1 q g3 (funext fun j => ?_) b3 fun a j hx hn => ?_) e fun a j ha => b4 a j (by omega) (by omega)) fun j => b4 _ _ (by decide) (by omega)
    · unfold unV
      by_cases j0 : 0 ≤ j ∧ j < 486
      · rw [if_pos j0, b1 j j0.1 j0.2]
        exact uhi u1 e (by decide) (by decide)
      · rw [if_neg j0, b2 j (by omega)]
        exact uhi u1 e (by decide) (by decide)
    · have hn : ¬ (a = 172 ∨ (a = 171 ∧ j = 7)) := hn
      have := mX_190 hx
      rw [b4 a j (by omega) (by unfold mX at hx; omega), uhi u1 e this.2 this.1]
theorem p_image (h : Rel9 g) : PrV (fun K => Ct Γ l (d + 2) 0 yX11_image mX11_image [vR 1] (stt g) K) (fun g2 K => Ct Γ l d 0 yX12_image mX12_image [vR 171] (stt g2) K) := by
  intro A hA
  refine k_image h fun g1 u1 c1 => ⟨g1, ⟨rfl, rfl⟩, hA _ fun g2 B e hB => ?_⟩
  refine m_image fun g3 b1 b2 b3 => ⟨g3, ⟨rfl, rfl⟩, hB _ (rel_fin (c1 g3 (fun j j0 j1 => by rw [b1 j j0 j1]; exact uhi u1 e (by decide) (by decide)) b2 fun a j hx hn => ?_) e fun a j ha => b3 a j (by omega) (by omega)) fun j => b3 _ _ (by decide) (by omega)⟩
  have hn : ¬ (a = 173 ∨ (a = 171 ∧ j = 6)) := hn
  have := mX_190 hx
  rw [b3 a j (by omega) (by unfold mX at hx; omega), uhi u1 e this.2 this.1]
theorem p_back (h : Rel9 g) : Pr0 (fun K => Ct Γ l (d + 2) 0 yX11_back mX11_back [vR 1] (stt g) K) (fun g2 K => Ct Γ l d 0 yX12_back mX12_back [vR 171] (stt g2) K) := by
  intro A hA
  refine k_back h fun g1 u1 c0 c1 => ⟨_, g1, ⟨rfl, rfl⟩, hA _ _ fun g2 B e hB => ?_⟩
  have e6 : g2 171 6 = g 171 6 := uhi u1 e (by decide) (by decide)
  refine m_back (by rw [e6]; exact h.2.2.1.2.1) fun g3 f0 f1 => ⟨_, g3, ⟨rfl, rfl⟩, ?_⟩
  rw [e6] at f0 f1 ⊢
  by_cases q : g 171 6 = 0
  · refine hB _ ?_ fun j => f0 q _ _ (by omega)
    exact (c0 q).cong (fun a j hx => by have := cX_190 hx; rw [f0 q a j (by omega), e a j (by omega)]) (fun a j hx => by
      have := mX_190 hx
      rw [f0 q a j (by unfold mX at hx; omega), uhi u1 e this.2 this.1])
  · obtain ⟨b1, b3, b4⟩ := f1 q
    refine hB _ (rel_fin (c1 q g3 (fun j j0 j1 => by rw [b1 j j0 j1]; exact uhi u1 e (by decide) (by decide)) b3 fun a j hx hn => ?_) e fun a j ha => b4 a j (by omega) (by omega)) fun j => b4 _ _ (by decide) (by omega)
    have hn : ¬ (a = 172 ∨ (a = 171 ∧ j = 7)) := hn
    have := mX_190 hx
    rw [b4 a j (by omega) (by unfold mX at hx; omega), uhi u1 e this.2 this.1]
theorem p_end {n : Int} (h : Rel9 g) (hn : wr n = n) : Pr0 (fun K => Ct Γ l d 0 yX11_end mX11_end [vR 1, vI n] (stt g) K) (fun g2 K => Ct Γ l d 0 yX12_end mX12_end [vR 171, vI n] (stt g2) K) := by
  intro A hA
  refine k_end h hn fun g1 u1 c0 c1 => ⟨_, g1, ⟨rfl, rfl⟩, hA _ _ fun g2 B e hB => ?_⟩
  have e9 : g2 171 9 = g 171 9 := uhi u1 e (by decide) (by decide)
  have m0 := h.2.2.2.1.1.2.1
  have m1 := h.2.2.2.1.1.2.2
  refine m_end (by omega) (by omega) hn fun g3 f0 f1 => ⟨_, g3, ⟨rfl, rfl⟩, ?_⟩
  rw [e9] at f0 f1 ⊢
  by_cases q : 0 ≤ n ∧ n ≤ g 171 9
  · obtain ⟨b3, b4⟩ := f1 q
    refine hB _ (rel_fin (c1 q g3 b3 fun a j hx hn => ?_) e fun a j ha => b4 a j (by omega)) fun j => b4 _ _ (by omega)
    have hn : ¬ (a = 171 ∧ j = 9) := hn
    have := mX_190 hx
    rw [b4 a j (by unfold mX at hx; omega), uhi u1 e this.2 this.1]
  · refine hB _ ?_ fun j => f0 q _ _ (by omega)
    exact (c0 q).cong (fun a j hx => by have := cX_190 hx; rw [f0 q a j (by omega), e a j (by omega)]) (fun a j hx => by
      have := mX_190 hx
      rw [f0 q a j (by unfold mX at hx; omega), uhi u1 e this.2 this.1])
theorem p_fault (h : Rel9 g) : Pr0 (fun K => Ct Γ l d 0 yX11_fault mX11_fault [vR 1] (stt g) K) (fun g2 K => Ct Γ l d 0 yX12_fault mX12_fault [vR 171] (stt g2) K) := by
  intro A hA
  refine k_fault h ⟨_, g, ⟨rfl, rfl⟩, hA _ _ fun g2 B e hB => ?_⟩
  refine m_fault fun g3 f => ⟨_, g3, ⟨rfl, rfl⟩, ?_⟩
  rw [e 171 14 (by decide)]
  exact hB _ (CRel.cong h (fun a j hx => by have := cX_190 hx; rw [f a j (by omega), e a j (by omega)]) (fun a j hx => by
    have := mX_190 hx
    rw [f a j (by unfold mX at hx; omega), e a j this.1])) fun j => f _ _ (by omega)
end PCO
