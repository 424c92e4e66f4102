/-! TRIALS, SEEDS, ACTS UNDONE, IMAGES, THE TAPE: the reference's side -/
section MO
variable {Γ : Cfg} {l : Launch} {d b : Nat} {g : GG} {K : Ou → HP → Prop} {V : VV} {p q n k : Int}
theorem m_gainsay (hv : g 172 = V) (hV : WF V) (hW : okLaw V) (hp : wr p = p) (hq : wr q = q) (kk : mc g (s_gainsay V p q) K) : Ct Γ l (d + 8) b yX12_gainsay mX12_gainsay [vR 171, vI p, vI q] (stt g) K := by
  have h6 := hV.1.1
  have v1 := th_v (c := 0) hv
  apply wpX12_gainsay
  rw [pcond hV v1 hp, pcond hV v1 hq, hp, hq]
  have m1 : kM g (upd2 g 171 0 0) := kM.th
  have z1 : upd2 g 171 0 0 171 0 = 0 := th_z
  generalize upd2 g 171 0 0 = g1 at v1 m1 z1 ⊢
  unfold s_gainsay at kk
  refine ⟨fun z => mc_fin kk (by rw [if_neg (fun c => z c.1)]) (m1.tr kM.th) th_z, fun z => ⟨fun zq => mc_fin kk (by rw [if_neg (fun c => zq c.2)]) (m1.tr kM.th) th_z, fun zq => ?_⟩⟩
  obtain ⟨p0, p1⟩ := Decidable.not_not.mp z
  obtain ⟨q0, q1⟩ := Decidable.not_not.mp zq
  rw [if_pos ⟨⟨p0, p1⟩, q0, q1⟩] at kk
  refine ⟨fun ne => m_laysHeld v1 hV hW fun g2 o2 hh => bV_in ?_, fun ne => mc_fin kk (by rw [if_pos (Decidable.not_not.mp ne)]) (m1.tr kM.th) th_z⟩
  rw [if_neg ne] at kk
  have v2 := o2.v.trans v1
  refine m_gainsays v2 hV hh p0 p1 q0 q1 (fun o => bI_in ⟨Or.inr (by decide +kernel), ?_⟩) (fun o => bI_in ⟨Or.inl wr_0, ?_⟩)
  · rw [if_pos o] at kk; exact mc_fin kk rfl (m1.tr o2.k) (by rw [o2.z, z1])
  · rw [if_neg o] at kk; exact mc_fin kk rfl (m1.tr o2.k) (by rw [o2.z, z1])
theorem m_keeps (kk : ∀ g', (∀ a j, a ≠ 175 → g' a j = g a j) → (∀ j, 0 ≤ j → j < 486 → g' 175 j = g 172 j) → K (.inl vU) (stt g')) : Ct Γ l d b yX12_keepsAll mX12_keepsAll [vR 171] (stt g) K := by
  apply wpX12_keepsAll
  refine up_loop (P := fun i => ∀ g', (∀ a j, a ≠ 175 → g' a j = g a j) → (∀ j, 0 ≤ j → j < (i : Int) → g' 175 j = g 172 j) → AW Γ l mX12_keepsAll d b 2 [vR 171, vI i] [] (stt g') K) (N := 486) (fun g' o f => ?_) (fun i hi9 hi g' o f => ?_) 0 (Nat.zero_le _) g (fun _ _ _ => rfl) (fun j j0 j1 => absurd j1 (by omega))
  · apply wpX12_keepsAll_2
    exact ⟨fun _ => kk g' o f, fun c => absurd (show 486 ≤ wr ((486 : Nat) : Int) by decide +kernel) c⟩
  · apply wpX12_keepsAll_2
    rw [wr_id (x := (i : Int)) (by omega) (by omega), o _ _ (by decide)]
    refine ⟨fun c => absurd c (by omega), fun _ => ⟨by omega, by omega, hi _ (fun a j ha => by rw [upd2_ne ha, o a j ha]) (fun j j0 j1 => ?_)⟩⟩
    by_cases c : j = i
    · rw [c, upd2_eq]
    · rw [upd2_nj c, f j j0 (by omega)]
theorem m_brings (kk : ∀ g', (∀ a j, a ≠ 172 → g' a j = g a j) → (∀ j, 0 ≤ j → j < 486 → g' 172 j = g 175 j) → (∀ j, j < 0 ∨ 486 ≤ j → g' 172 j = g 172 j) → K (.inl vU) (stt g')) : Ct Γ l d b yX12_bringsBack mX12_bringsBack [vR 171] (stt g) K := by
  apply wpX12_bringsBack
  refine up_loop (P := fun i => ∀ g', (∀ a j, a ≠ 172 → g' a j = g a j) → (∀ j, 0 ≤ j → j < (i : Int) → g' 172 j = g 175 j) → (∀ j, j < 0 ∨ (i : Int) ≤ j → g' 172 j = g 172 j) → AW Γ l mX12_bringsBack d b 2 [vR 171, vI i] [] (stt g') K) (N := 486) (fun g' o f q => ?_) (fun i hi9 hi g' o f q => ?_) 0 (Nat.zero_le _) g (fun _ _ _ => rfl) (fun j j0 j1 => absurd j1 (by omega)) (fun _ _ => rfl)
  · apply wpX12_bringsBack_2
    exact ⟨fun _ => kk g' o f q, fun c => absurd (show 486 ≤ wr ((486 : Nat) : Int) by decide +kernel) c⟩
  · apply wpX12_bringsBack_2
    rw [wr_id (x := (i : Int)) (by omega) (by omega), o _ _ (by decide)]
    refine ⟨fun c => absurd c (by omega), fun _ => ⟨by omega, by omega, hi _ (fun a j ha => by rw [upd2_ne ha, o a j ha]) (fun j j0 j1 => ?_) (fun j hj => by rw [upd2_nj (by omega), q j (by omega)])⟩⟩
    by_cases c : j = i
    · rw [c, upd2_eq]
    · rw [upd2_nj c, f j j0 (by omega)]
/-- what is let go on, and brought back -/
theorem m_bring {g1 : GG} {U : VV} (h175 : ∀ j, 0 ≤ j → j < 486 → g1 175 j = V j) (hu : g1 172 = U) (hj : ∀ j, 486 ≤ j → U j = V j) (hn : ∀ j, j < 0 → U j = V j) (kk : ∀ g2, g2 172 = V → (∀ a j, a ≠ 172 → g2 a j = g1 a j) → K (.inl vU) (stt g2)) : Ct Γ l d b yX12_bringsBack mX12_bringsBack [vR 171] (stt g1) K :=
  m_brings fun g2 o f q => kk g2 (funext fun j => by
    by_cases c : 0 ≤ j ∧ j < 486
    · rw [f j c.1 c.2, h175 j c.1 c.2]
    · rw [q j (by omega), hu]
      by_cases c2 : 486 ≤ j
      · exact hj j c2
      · exact hn j (by omega)) o
theorem spk_neg {V : VV} {p j : Int} (p0 : 0 ≤ p) (hj : j < 0) : spkV V p j = V j := by
  have e1 : spk1 V p j = V j := by
    unfold spk1
    by_cases q : iRem (drS V) 100 < V 3 - 10 * zG V p
    · rw [if_pos q, brkV_ne (by omega) (by omega) (by omega) (by omega), upV_ne (by omega), upV_ne (by omega)]
    · rw [if_neg q, upV_ne (by omega)]
  have e2 : ∀ U : VV, spk2 U p j = U j := fun U => by
    unfold spk2
    by_cases q : zS U p = 1
    · rw [if_pos q]
      by_cases q2 : zC U p + zB U p < zL U p
      · rw [if_pos q2, upV_ne (by omega)]
      · rw [if_neg q2, heldT_ne (by omega) (by omega) (by omega) (by omega)]
    · rw [if_neg q]
  have e3 : ∀ U : VV, spk3 U p j = U j := fun U => by
    unfold spk3
    by_cases q : zS U p = 2
    · rw [if_pos q, upV_ne (by omega)]
    · rw [if_neg q]
  unfold spkV
  rw [e3, e2, e1]
theorem ps_neg {V : VV} {j : Int} (hj : j < 0) : ∀ n : Nat, (psS V n).1 j = V j
  | 0 => rfl
  | n + 1 => by
    have h : ∀ (st : VV × Int) (k : Nat), (fd hrP st k).1 j = st.1 j := fun st k => by
      induction k with
      | zero => rfl
      | succ k ih =>
        show (hrP (fd hrP st k) k).1 j = _
        generalize fd hrP st k = s2 at ih ⊢
        unfold hrP
        by_cases q : zS s2.1 k = 1
        · rw [if_pos q]
          show spkV s2.1 k j = _
          rw [spk_neg (by omega) hj, ih]
        · rw [if_neg q, ih]
    have ih := ps_neg (V := V) hj n
    show upV (fd hrP (psS V n) ((psS V n).1 0).toNat).1 4 (iMin 9999 ((fd hrP (psS V n) ((psS V n).1 0).toNat).1 4 + 1)) j = V j
    rw [upV_ne (by omega), h, ih]
/-- what may change while it is tried how hours go on -/
def fT (g g' : GG) : Prop := ∀ a j, a ≠ 172 → ¬ rW a j → ¬ (a = 171 ∧ j = 24) → a ≠ 180 → a ≠ 175 → g' a j = g a j
theorem fT.tr {g g1 g2 : GG} (h : fT g g1) (h2 : fT g1 g2) : fT g g2 := fun a j a1 a2 a3 a4 a5 => by rw [h2 a j a1 a2 a3 a4 a5, h a j a1 a2 a3 a4 a5]
theorem onlyM.t {g g' : GG} (h : onlyM g g') : fT g g' := fun a j a1 a2 a3 _ _ => h a j a1 a2 a3
theorem fT.km {g g' : GG} (h : fT g g') (hv : g' 172 = g 172) : kM g g' := fun a j hs => by
  by_cases c : a = 172
  · rw [c, hv]
  · exact h a j c (by unfold rW; unfold mS at hs; omega) (by unfold mS at hs; omega) (by unfold mS at hs; omega) (by unfold mS at hs; omega)
theorem fT.z {g g' : GG} (h : fT g g') : g' 171 0 = g 171 0 := h _ _ (by decide) (by unfold rW; omega) (by omega) (by decide) (by decide)
theorem m_trial {e : Int} (hv : g 172 = V) (hV : WF V) (hW : okLaw V) (hz : ZQ V) (hn : wr n = n) (he : wr e = e) (kk : mc g (s_trial V n e) K) : Ct Γ l (d + 13) b yX12_trial mX12_trial [vR 171, vI n, vI e] (stt g) K := by
  have v1 := th_v (c := 0) hv
  apply wpX12_trial
  rw [hn, he]
  have m1 : kM g (upd2 g 171 0 0) := kM.th
  have z1 : upd2 g 171 0 0 171 0 = 0 := th_z
  generalize upd2 g 171 0 0 = g1 at v1 m1 z1 ⊢
  unfold s_trial at kk
  refine ⟨fun z => mc_fin kk (by rw [if_neg z]) (m1.tr kM.th) th_z, fun z => ?_⟩
  have z := Decidable.not_not.mp z
  rw [if_pos z] at kk
  obtain ⟨i, rfl⟩ : ∃ i : Nat, n = i := ⟨n.toNat, by omega⟩
  rw [Int.toNat_natCast] at kk
  have po := ps_ok hV hW hz i
  refine m_inOrder fun g2 i2 o2 => bV_in (m_keeps fun g3 o3 f3 => bV_in ?_)
  have v2 : g2 172 = V := by rw [← v1]; exact funext fun j => o2 _ _ (by decide)
  have v3 : g3 172 = V := by rw [← v2]; exact funext fun j => o3 _ _ (by decide)
  have i3 : inO g3 := fun k k0 k1 => by rw [o3 _ _ (by decide)]; exact i2 k k0 k1
  have t13 : fT g1 g3 := fun a j a1 a2 a3 a4 a5 => by rw [o3 a j a5, o2 a j a4]
  refine m_goesOn (n := i) (by omega) v3 hV hW i3 fun g4 v4 w4 W4 o4 => bI_in ?_
  have t14 := t13.tr o4.t
  have f4 : ∀ j, 0 ≤ j → j < 486 → g4 175 j = V j := fun j j0 j1 => by rw [o4 _ _ (by decide) (by unfold rW; omega) (by omega), f3 j j0 j1, v2]
  refine ⟨fun ze => m_allIn v4 w4 (by decide) (by decide) (bI_in (m_bring f4 v4 po.2.2.2.2 (fun j hj => ps_neg hj i) fun g5 v5 o5 => bV_in ?_)), fun ze => m_bring f4 v4 po.2.2.2.2 (fun j hj => ps_neg hj i) fun g5 v5 o5 => bV_in ?_⟩
  · rw [if_pos ze] at kk
    have t15 : fT g1 g5 := t14.tr fun a j a1 _ _ _ _ => o5 a j a1
    exact mc_fin kk rfl (m1.tr (t15.km (v5.trans v1.symm))) (by rw [t15.z, z1])
  · rw [if_neg ze] at kk
    have t15 : fT g1 g5 := t14.tr fun a j a1 _ _ _ _ => o5 a j a1
    rw [v4]
    exact mc_fin kk rfl (m1.tr (t15.km (v5.trans v1.symm))) (by rw [t15.z, z1])
theorem m_span {e : Int} (hv : g 172 = V) (hV : WF V) (hW : okLaw V) (hz : ZQ V) (hn : wr n = n) (he : wr e = e) (kk : mc g (s_span V n e) K) : Ct Γ l (d + 13) b yX12_span mX12_span [vR 171, vI n, vI e] (stt g) K := by
  have v1 := th_v (c := 0) hv
  apply wpX12_span
  rw [hn]
  have m1 : kM g (upd2 g 171 0 0) := kM.th
  have z1 : upd2 g 171 0 0 171 0 = 0 := th_z
  generalize upd2 g 171 0 0 = g1 at v1 m1 z1 ⊢
  unfold s_span at kk
  refine ⟨fun z => mc_fin kk (by rw [if_neg z]) (m1.tr kM.th) th_z, fun z => ?_⟩
  have z := Decidable.not_not.mp z
  rw [if_pos z] at kk
  refine m_inOrder fun g2 i2 o2 => bV_in (m_keeps fun g3 o3 f3 => bV_in ?_)
  have v2 : g2 172 = V := by rw [← v1]; exact funext fun j => o2 _ _ (by decide)
  have v3 : g3 172 = V := by rw [← v2]; exact funext fun j => o3 _ _ (by decide)
  have i3 : inO g3 := fun k k0 k1 => by rw [o3 _ _ (by decide)]; exact i2 k k0 k1
  have t13 : fT g1 g3 := fun a j a1 a2 a3 a4 a5 => by rw [o3 a j a5, o2 a j a4]
  refine up_loop (P := fun i => ∀ g4, g4 172 = V → inO g4 → (∀ j, 0 ≤ j → j < 486 → g4 175 j = V j) → fT g1 g4 → AW Γ l mX12_span (d + 13) b 32 [vR 171, vI n, vI e, vI (spS V n e i), vI ((i : Int) + 1), vU] [] (stt g4) K) (N := 6) (fun g4 v4 i4 f4 t4 => ?_) (fun i hi9 hi g4 v4 i4 f4 t4 => ?_) 0 (Nat.zero_le _) g3 v3 i3 (fun j j0 j1 => by rw [f3 j j0 j1, v2]) t13
  · apply wpX12_span_32
    exact ⟨fun _ => mc_fin kk rfl (m1.tr (t4.km (v4.trans v1.symm))) (by rw [t4.z, z1]), fun c => absurd (show 6 < wr (((6 : Nat) : Int) + 1) by decide +kernel) c⟩
  · have so := see_ok hV hW hz ((i : Int) + 1)
    have po := ps_ok so.1 so.2.1 so.2.2 n.toNat
    have rg := spS_rng hV hW hz n e i
    have se := sp_ear hV hW hz ((i : Int) + 1) n.toNat
    have hi2 : ∀ g4 : GG, g4 172 = V → inO g4 → (∀ j, 0 ≤ j → j < 486 → g4 175 j = V j) → fT g1 g4 → ∀ v : AV, AW Γ l mX12_span (d + 13) b 32 [vR 171, vI n, vI e, vI (if spS V n e i = -1 then (psS (upV V 7 ((i : Int) + 1)) n.toNat).1 5 else if e = 0 then iMin (spS V n e i) ((psS (upV V 7 ((i : Int) + 1)) n.toNat).1 5) else iMax (spS V n e i) ((psS (upV V 7 ((i : Int) + 1)) n.toNat).1 5)), vI ((i : Int) + 1 + 1), v] [] (stt g4) K := fun g4 a1 a2 a3 a4 v => AW.weak (hi g4 a1 a2 a3 a4) (by simp [leP]; rfl)
    generalize spS V n e i = x at rg hi2 ⊢
    have en : n = ((n.toNat : Nat) : Int) := by omega
    have v5 : (upd2 g4 172 7 ((i : Int) + 1)) 172 = upV V 7 ((i : Int) + 1) := by rw [upd_v, v4]
    have i5 : inO (upd2 g4 172 7 ((i : Int) + 1)) := fun k k0 k1 => by rw [upd2_ne (by decide)]; exact i4 k k0 k1
    have f5 : ∀ j, 0 ≤ j → j < 486 → upd2 g4 172 7 ((i : Int) + 1) 175 j = V j := fun j j0 j1 => by rw [upd2_ne (by decide)]; exact f4 j j0 j1
    have t5 : fT g1 (upd2 g4 172 7 ((i : Int) + 1)) := t4.tr fun a j a1 _ _ _ _ => upd2_ne a1
    apply wpX12_span_32
    rw [wr_id (x := (i : Int) + 1) (by omega) (by omega)]
    generalize upd2 g4 172 7 ((i : Int) + 1) = g5 at v5 i5 f5 t5 ⊢
    refine ⟨fun c => absurd c (by omega), fun _ => ?_⟩
    have goes := m_goesOn (Γ := Γ) (l := l) (d := d) (b := 0) (n := n.toNat) (by omega) v5 so.1 so.2.1 i5 (K := bI (fun v1 g1 => Ct Γ l (d + 12) 0 yX12_bringsBack mX12_bringsBack [vR 171] (stt g1) (bV (fun g2 => (0 ≤ wr x → (wr e = 0 → AW Γ l mX12_span (d + 13) b 32 [vR 171, vI n, vI e, vI (iMin x (g1 172 5)), vI ((i : Int) + 1 + 1), vI (g1 172 5)] [] (stt g2) K) ∧ (¬ (wr e = 0) → AW Γ l mX12_span (d + 13) b 32 [vR 171, vI n, vI e, vI (iMax x (g1 172 5)), vI ((i : Int) + 1 + 1), vI (g1 172 5)] [] (stt g2) K)) ∧ (¬ (0 ≤ wr x) → AW Γ l mX12_span (d + 13) b 32 [vR 171, vI n, vI e, vI (g1 172 5), vI ((i : Int) + 1 + 1), vI (g1 172 5)] [] (stt g2) K)) K)) K) fun g6 v6 _ _ o6 => bI_in ?_
    · rw [← en] at goes
      exact goes
    · have f6 : ∀ j, 0 ≤ j → j < 486 → g6 175 j = V j := fun j j0 j1 => by rw [o6 _ _ (by decide) (by unfold rW; omega) (by omega)]; exact f5 j j0 j1
      refine m_bring f6 v6 (fun j hj => (po.2.2.2.2 j hj).trans (upV_ne (by omega))) (fun j hj => (ps_neg hj n.toNat).trans (upV_ne (by omega))) fun g7 v7 o7 => bV_in ?_
      have hk := hi2 g7 v7 (fun k k0 k1 => by rw [o7 _ _ (by decide), o6 _ _ (by decide) (by unfold rW; omega) (by omega)]; exact i5 k k0 k1) (fun j j0 j1 => by rw [o7 _ _ (by decide)]; exact f6 j j0 j1) ((t5.tr o6.t).tr fun a j a1 _ _ _ _ => o7 a j a1)
      rw [v6, he, wr_id (x := x) (by omega) (by omega)]
      generalize (psS (upV V 7 ((i : Int) + 1)) n.toNat).1 5 = y at se hk ⊢
      refine ⟨fun c => ⟨fun c2 => ?_, fun c2 => ?_⟩, fun c => ?_⟩
      · rw [if_neg (by omega), if_pos c2] at hk; exact hk _
      · rw [if_neg (by omega), if_neg c2] at hk; exact hk _
      · rw [if_pos (by omega)] at hk; exact hk _
theorem m_seed (hv : g 172 = V) (kk : ∀ g', g' 172 = upV V 7 n → (∀ a j, a ≠ 172 → ¬ (a = 171 ∧ j = 0) → g' a j = g a j) → K (.inl (vI (V 7))) (stt g')) : Ct Γ l d b yX12_seed mX12_seed [vR 171, vI n] (stt g) K := by
  have v1 := th_v (c := 0) hv
  apply wpX12_seed
  rw [v1]
  exact kk _ (by rw [upd_v, v1]) (fun a j h1 h2 => by rw [upd2_ne h1]; exact if_neg (fun z => h2 ⟨z.2, z.1⟩))
theorem m_undo (n0 : 0 ≤ g 171 7) (n1 : g 171 7 ≤ 12) (kk : ∀ g', (g 171 7 = 0 → ∀ a j, ¬ (a = 171 ∧ j = 0) → g' a j = g a j) → (g 171 7 ≠ 0 → (∀ j, 0 ≤ j → j < 486 → g' 172 j = aV g (g 171 7 - 1) j) ∧ (∀ j, j < 0 ∨ 486 ≤ j → g' 172 j = g 172 j) ∧ g' 171 7 = g 171 7 - 1 ∧ ∀ a j, a ≠ 172 → ¬ (a = 171 ∧ (j = 0 ∨ j = 7)) → g' a j = g a j) → K (.inl (vI (if g 171 7 = 0 then 0 else 1))) (stt g')) : Ct Γ l d b yX12_undo mX12_undo [vR 171] (stt g) K := by
  have e7 : upd2 g 171 0 0 171 7 = g 171 7 := upd2_nj (by decide)
  apply wpX12_undo
  rw [e7, wr_id (x := g 171 7) (by omega) (by omega)]
  refine ⟨fun c g1 e1 => ?_, fun c => ?_⟩
  · rw [if_neg c] at kk
    have p7 : g1 171 7 = g 171 7 - 1 := by rw [e1, upd2_eq]
    have pn : ∀ a j, ¬ (a = 171 ∧ (j = 0 ∨ j = 7)) → g1 a j = g a j := fun a j hn => by
      rw [e1, show upd2 (upd2 g 171 0 0) 171 7 (g 171 7 - 1) a j = upd2 g 171 0 0 a j from if_neg (fun z => hn ⟨z.2, Or.inr z.1⟩)]
      exact if_neg (fun z => hn ⟨z.2, Or.inl z.1⟩)
    refine up_loop (P := fun i => ∀ g', (∀ a j, a ≠ 172 → g' a j = g1 a j) → (∀ j, 0 ≤ j → j < (i : Int) → g' 172 j = aV g (g 171 7 - 1) j) → (∀ j, j < 0 ∨ (i : Int) ≤ j → g' 172 j = g 172 j) → AW Γ l mX12_undo d b 26 [vR 171, vI i] [] (stt g') K) (N := 486) (fun g' o f q => ?_) (fun i hi9 hi g' o f q => ?_) 0 (Nat.zero_le _) g1 (fun _ _ _ => rfl) (fun j j0 j1 => absurd j1 (by omega)) (fun j _ => pn _ _ (by omega))
    · apply wpX12_undo_26
      exact ⟨fun _ => kk g' (fun z => absurd z c) (fun _ => ⟨f, q, by rw [o _ _ (by decide), p7], fun a j h1 h2 => by rw [o a j h1, pn a j h2]⟩), fun c => absurd (show 486 ≤ wr ((486 : Nat) : Int) by decide +kernel) c⟩
    · apply wpX12_undo_26
      rw [wr_id (x := (i : Int)) (by omega) (by omega), o _ _ (by decide), p7, wr_id (x := 486 * (g 171 7 - 1) + (i : Int)) (by omega) (by omega)]
      refine ⟨fun c => absurd c (by omega), fun _ => ⟨by omega, by omega, fun g2 e2 => hi g2 (fun a j ha => by rw [e2, upd2_ne ha, o a j ha]) (fun j j0 j1 => ?_) (fun j hj => by rw [e2, upd2_nj (by omega), q j (by omega)])⟩⟩
      by_cases x : j = i
      · rw [e2, x, upd2_eq, o _ _ (by decide), pn _ _ (by omega)]; rfl
      · rw [e2, upd2_nj x, f j j0 (by omega)]
  · have c := Decidable.not_not.mp c
    rw [if_pos c] at kk
    exact kk _ (fun _ a j hn => if_neg (fun z => hn ⟨z.2, z.1⟩)) (fun z => absurd c z)
theorem m_image (kk : ∀ g', (∀ j, 0 ≤ j → j < 1335 → g' 173 j = g 172 j) → g' 171 6 = 1 → (∀ a j, a ≠ 173 → ¬ (a = 171 ∧ (j = 0 ∨ j = 6)) → g' a j = g a j) → K (.inl vU) (stt g')) : Ct Γ l d b yX12_image mX12_image [vR 171] (stt g) K := by
  apply wpX12_image
  have pn : ∀ a j, ¬ (a = 171 ∧ j = 0) → upd2 g 171 0 0 a j = g a j := fun a j hn => if_neg (fun z => hn ⟨z.2, z.1⟩)
  generalize upd2 g 171 0 0 = g1 at pn ⊢
  refine up_loop (P := fun i => ∀ g', (∀ a j, a ≠ 173 → g' a j = g1 a j) → (∀ j, 0 ≤ j → j < (i : Int) → g' 173 j = g 172 j) → AW Γ l mX12_image d b 7 [vR 171, vI i] [] (stt g') K) (N := 1335) (fun g' o f => ?_) (fun i hi9 hi g' o f => ?_) 0 (Nat.zero_le _) g1 (fun _ _ _ => rfl) (fun j j0 j1 => absurd j1 (by omega))
  · apply wpX12_image_7
    refine ⟨fun _ => kk _ (fun j j0 j1 => by rw [upd2_ne (by decide)]; exact f j j0 j1) upd2_eq (fun a j h1 h2 => ?_), fun c => absurd (show 1335 ≤ wr ((1335 : Nat) : Int) by decide +kernel) c⟩
    rw [show upd2 g' 171 6 1 a j = g' a j from if_neg (fun z => h2 ⟨z.2, Or.inr z.1⟩), o a j h1, pn a j (fun z => h2 ⟨z.1, Or.inl z.2⟩)]
  · apply wpX12_image_7
    rw [wr_id (x := (i : Int)) (by omega) (by omega), o 172 i (by decide), pn _ _ (by omega)]
    refine ⟨fun c => absurd c (by omega), fun _ => ⟨by omega, by omega, hi _ (fun a j ha => by rw [upd2_ne ha, o a j ha]) (fun j j0 j1 => ?_)⟩⟩
    by_cases x : j = i
    · rw [x, upd2_eq]
    · rw [upd2_nj x, f j j0 (by omega)]
theorem m_back (h6 : g 171 6 = 0 ∨ g 171 6 = 1) (kk : ∀ g', (g 171 6 = 0 → ∀ a j, ¬ (a = 171 ∧ j = 0) → g' a j = g a j) → (g 171 6 ≠ 0 → (∀ j, 0 ≤ j → j < 1335 → g' 172 j = g 173 j) ∧ g' 171 7 = 0 ∧ ∀ a j, a ≠ 172 → ¬ (a = 171 ∧ (j = 0 ∨ j = 7)) → g' a j = g a j) → K (.inl (vI (if g 171 6 = 0 then 0 else 1))) (stt g')) : Ct Γ l d b yX12_back mX12_back [vR 171] (stt g) K := by
  have e6 : upd2 g 171 0 0 171 6 = g 171 6 := upd2_nj (by decide)
  apply wpX12_back
  rw [e6, wr_id (x := g 171 6) (by omega) (by omega)]
  have pn : ∀ a j, ¬ (a = 171 ∧ j = 0) → upd2 g 171 0 0 a j = g a j := fun a j hn => if_neg (fun z => hn ⟨z.2, z.1⟩)
  generalize upd2 g 171 0 0 = g1 at pn ⊢
  refine ⟨fun c => ?_, fun c => ?_⟩
  · rw [if_neg c] at kk
    refine up_loop (P := fun i => ∀ g', (∀ a j, a ≠ 172 → g' a j = g1 a j) → (∀ j, 0 ≤ j → j < (i : Int) → g' 172 j = g 173 j) → AW Γ l mX12_back d b 16 [vR 171, vI i] [] (stt g') K) (N := 1335) (fun g' o f => ?_) (fun i hi9 hi g' o f => ?_) 0 (Nat.zero_le _) g1 (fun _ _ _ => rfl) (fun j j0 j1 => absurd j1 (by omega))
    · apply wpX12_back_16
      refine ⟨fun _ => kk _ (fun z => absurd z c) (fun _ => ⟨fun j j0 j1 => by rw [upd2_ne (by decide)]; exact f j j0 j1, upd2_eq, fun a j h1 h2 => ?_⟩), fun c => absurd (show 1335 ≤ wr ((1335 : Nat) : Int) by decide +kernel) c⟩
      rw [show upd2 g' 171 7 0 a j = g' a j from if_neg (fun z => h2 ⟨z.2, Or.inr z.1⟩), o a j h1, pn a j (fun z => h2 ⟨z.1, Or.inl z.2⟩)]
    · apply wpX12_back_16
      rw [wr_id (x := (i : Int)) (by omega) (by omega), o 173 i (by decide), pn _ _ (by omega)]
      refine ⟨fun c => absurd c (by omega), fun _ => ⟨by omega, by omega, hi _ (fun a j ha => by rw [upd2_ne ha, o a j ha]) (fun j j0 j1 => ?_)⟩⟩
      by_cases x : j = i
      · rw [x, upd2_eq]
      · rw [upd2_nj x, f j j0 (by omega)]
  · have c := Decidable.not_not.mp c
    rw [if_pos c] at kk
    exact kk _ (fun _ a j hn => pn a j hn) (fun z => absurd c z)
theorem m_end (n0 : 0 ≤ g 171 9) (n1 : g 171 9 ≤ 400) (hn : wr n = n) (kk : ∀ g', (¬ (0 ≤ n ∧ n ≤ g 171 9) → ∀ a j, ¬ (a = 171 ∧ j = 0) → g' a j = g a j) → (0 ≤ n ∧ n ≤ g 171 9 → g' 171 9 = n ∧ ∀ a j, ¬ (a = 171 ∧ (j = 0 ∨ j = 9)) → g' a j = g a j) → K (.inl (vI (if 0 ≤ n ∧ n ≤ g 171 9 then 1 else 0))) (stt g')) : Ct Γ l d b yX12_end mX12_end [vR 171, vI n] (stt g) K := by
  have e9 : upd2 g 171 0 0 171 9 = g 171 9 := upd2_nj (by decide)
  apply wpX12_end
  rw [hn, e9, wr_id (x := g 171 9) (by omega) (by omega)]
  have pn : ∀ a j, ¬ (a = 171 ∧ j = 0) → upd2 g 171 0 0 a j = g a j := fun a j hn => if_neg (fun z => hn ⟨z.2, z.1⟩)
  generalize upd2 g 171 0 0 = g1 at pn ⊢
  refine ⟨fun c => ?_, fun c => ⟨fun c2 => ?_, fun c2 => ?_⟩⟩
  · rw [if_neg (by omega)] at kk
    exact kk g1 (fun _ => pn) (fun z => absurd z.1 (by omega))
  · rw [if_pos (by omega)] at kk
    refine kk _ (fun z => absurd (by omega) z) (fun _ => ⟨upd2_eq, fun a j h2 => ?_⟩)
    rw [show upd2 g1 171 9 n a j = g1 a j from if_neg (fun z => h2 ⟨z.2, Or.inr z.1⟩), pn a j (fun z => h2 ⟨z.1, Or.inl z.2⟩)]
  · rw [if_neg (by omega)] at kk
    exact kk g1 (fun _ => pn) (fun z => absurd z.2 (by omega))
end MO
