/-! A TEXT OF THE LAW: the reference's reader, all of it; its call -/
section MM9
variable {Γ : Cfg} {l : Launch} {d b : Nat} {g : GG} {K : Ou → HP → Prop} {T S P N : Int → Int} {L n p e x y a : Int}
theorem MZ.rd {g g' : GG} {W : VV} {c k : Int} (h : MZ g W c k) (o : oRd g g') : MZ g' W c k := ⟨by rw [o _ _ (by omega)]; exact h.1, fun j hj => by rw [o _ _ (by omega)]; exact h.2 j hj⟩
theorem m_lawAll {m : GG} (hS : TS T L n S P N) {F : Nat} (hF : 2410 ≤ F) (hT : MTp m T) (hn : m 171 9 = L) (kk : ∀ g', (∀ x j, x ≠ 171 → ¬ (x = 172 ∧ 1336 ≤ j) → g' x j = m x j) → (∀ j, ¬ (j = 0 ∨ j = 9 ∨ j = 10 ∨ j = 11 ∨ j = 12 ∨ j = 13 ∨ j = 17) → g' 171 j = m 171 j) → g' 171 0 = 0 → g' 171 9 = 0 → ((laR S N F).1 = true → ∀ c, MZ g' (laR S N F).2.2.1 c (laR S N F).2.2.2 → LV (laR S N F).2.2.1 c (laR S N F).2.2.2 → K (.inl (vI (laR S N F).2.2.2)) (stt g')) ∧ (¬ (laR S N F).1 = true → g' 171 12 = P (laR S N F).2.1 → K (.inl (vI (-1))) (stt g'))) : Ct Γ l (d + 31) b yX12_readAll mX12_readAll [vR 171, vI 0] (stt m) K := by
  have w0 : wr 0 = 0 := by decide +kernel
  have w1 : wr 1 = 1 := by decide +kernel
  have n0 := hS.1.1
  apply wpX12_readAll
  refine m_uses hn fun g1 c1 c2 c3 c4 c5 c6 => bV_in ?_
  have f9 : g1 171 9 = 0 := c1.2
  have u : ∀ x j, ¬ (x = 171 ∧ j = 17) → upd2 g1 171 17 0 x j = g1 x j := fun x j h => if_neg (fun z => h ⟨z.2, z.1⟩)
  have u17 : upd2 g1 171 17 0 171 17 = 0 := upd2_eq
  generalize upd2 g1 171 17 0 = g2 at u u17 ⊢
  have hR2 : RD g2 T L := ⟨fun i i0 i1 => by rw [u _ _ (by omega), c4 _ _ (by decide)]; exact hT i i0 i1, by rw [u _ _ (by omega)]; exact c3, n0.2.2⟩
  have at2 : AT g2 T L n P 0 := by
    obtain ⟨e, h1, h2⟩ := hS.2.2 0 (by decide) n0.1
    have e0 : e = 0 := by
      rcases h1 with h1 | h1
      · exact h1.2
      · omega
    refine ⟨⟨by decide, n0.1, ?_⟩, ?_⟩
    · rw [u _ _ (by omega), c6]; decide
    · rw [e0] at h2
      rw [u _ _ (by omega), c6]
      exact h2
  have kk : ∀ g', oY g2 g' → ((laR S N F).1 = true → ∀ c, MZ g' (laR S N F).2.2.1 c (laR S N F).2.2.2 → LV (laR S N F).2.2.1 c (laR S N F).2.2.2 → K (.inl (vI (laR S N F).2.2.2)) (stt g')) ∧ (¬ (laR S N F).1 = true → g' 171 12 = P (laR S N F).2.1 → K (.inl (vI (-1))) (stt g')) := fun g' o => kk g' (fun x j h1 h2 => by rw [o x j (by omega) h2, u _ _ (by omega), c4 _ _ h1]) (fun j h1 => by rw [o _ _ (by omega) (by omega), u _ _ (by omega), c5 _ (by omega) (by omega) (by omega) (by omega)]) (by rw [o _ _ (by omega) (by omega), u _ _ (by omega)]; exact c2) (by rw [o _ _ (by omega) (by omega), u _ _ (by omega)]; exact f9)
  refine m_bl hR2 at2 fun g3 o3 f3 h3 => bV_in ?_
  have hp := hS.p (a := 0) (by decide) n0.1
  have e11 : g3 171 11 = L := (hR2.op o3).2.1
  rw [f3, e11, wr_id (x := P 0) (by omega) (by omega), wr_id (x := L) (by omega) (by omega)]
  have fin0 := hS.fin (a := 0) (by decide) n0.1
  have mz3 : MZ g3 (fun _ => 0) 0 0 := ⟨by rw [o3 _ _ (by omega)]; exact u17, fun j hj => by omega⟩
  have lv0 : LV (fun _ => 0) 0 0 := ⟨⟨by decide, by decide, by decide⟩, fun i hi => absurd hi (by omega)⟩
  unfold laR at kk
  refine ⟨fun c => ?_, fun c => ?_⟩
  · rw [if_neg (fun z => c (fin0.mpr z))] at kk
    have key : ∀ (f : Nat) (W : VV) (c k a : Int) (g : GG), (f : Int) + k = 12 → RD g T L → AT g T L n P a → MZ g W c k → LV W c k → c ≤ a → (∀ g', oY g g' → ((ltR S N F f W c k a).1 = true → ∀ c', MZ g' (ltR S N F f W c k a).2.2.1 c' (ltR S N F f W c k a).2.2.2 → LV (ltR S N F f W c k a).2.2.1 c' (ltR S N F f W c k a).2.2.2 → K (.inl (vI (ltR S N F f W c k a).2.2.2)) (stt g')) ∧ (¬ (ltR S N F f W c k a).1 = true → g' 171 12 = P (ltR S N F f W c k a).2.1 → K (.inl (vI (-1))) (stt g'))) → AW Γ l mX12_readAll (d + 31) b 28 [vR 171, vI 0, vI k] [] (stt g) K := by
      intro f
      induction f with
      | zero =>
        intro W c k a g hf hR hA mz lv ca kk
        apply wpX12_readAll_28
        apply wpX12_readLine
        refine m_let hS hR hA fun g4 o4 l4 => bV_in ?_
        rw [w0, wr_id (x := k) (by omega) (by omega)]
        refine ⟨fun _ => ⟨fun _ => bI_in ?_, fun z => absurd (show 12 ≤ k by omega) z⟩, fun z => absurd rfl z⟩
        rw [w0]
        exact ⟨fun z => absurd rfl z, fun _ => (kk g4 o4.y).2 Bool.false_ne_true l4.1⟩
      | succ f ih =>
        intro W c k a g hf hR hA mz lv ca kk
        have hk0 := lv.1
        have a0 := hA.a0
        have an := hA.a1
        have r := ll_ok hS F a0 an
        unfold ltR at kk
        apply wpX12_readAll_28
        apply wpX12_readLine
        refine m_let hS hR hA fun g4 o4 l4 => bV_in ?_
        rw [w0, wr_id (x := k) (by omega) (by omega)]
        refine ⟨fun _ => ⟨fun z => absurd z (by omega), fun _ => ⟨fun _ => ?_, fun z => absurd rfl z⟩⟩, fun z => absurd rfl z⟩
        have hR4 := hR.op o4
        refine m_lawLine (W := W) (c := c) hS hF hk0.1 (by omega) hk0.2.2 ca hR4 a0 an l4 (mz.rd o4) (fun m z g5 el o5 at5 mz5 => bI_in ?_) (fun m z g5 el o5 f5 => bI_in ?_)
        · rw [el] at kk r
          simp only at kk r
          rw [if_pos trivial] at kk
          rw [w1]
          refine ⟨fun q => absurd q (by decide), fun _ => bI_in ?_⟩
          rw [w1]
          refine ⟨fun _ => ?_, fun q => absurd (show (1 : Int) ≠ 0 by decide) q⟩
          obtain ⟨rw1, rw2, rw3, rw4, rw5⟩ := r.2 trivial
          have cm : c + z.2.2.1 ≤ m := by
            by_cases v : z.2.2.1 = 0
            · rw [if_pos v] at rw5; omega
            · rw [if_neg v] at rw5; omega
          have lv5 := lv.add (x := z) (by omega) rw1 rw2 rw3 rw4 (by omega)
          have hR5 := hR4.oy o5
          refine m_bl hR5 at5 fun g6 o6 f6 h6 => bV_in ?_
          have hp := hS.p at5.a0 at5.a1
          have hR6 := hR5.op o6
          rw [f6, hR6.2.1, wr_id (x := P m) (by omega) (by omega), wr_id (x := L) (by omega) (by omega)]
          have fe := hS.fin at5.a0 at5.a1
          refine ⟨fun q => ?_, fun q => ?_⟩
          · rw [if_neg (fun v => q (fe.mpr v))] at kk
            refine m_mark 59 30 (by decide) (by decide +kernel) (by decide) (by decide) (by decide) hS hR6 at5.a0 at5.a1 f6 (fun v at7 => bI_in ?_) (fun v => bI_in ?_)
            · rw [if_pos (show S m = 1030 from v)] at kk
              rw [w1]
              refine ⟨fun _ => ?_, fun v => absurd (show (1 : Int) ≠ 0 by decide) v⟩
              have o7 := oRd.at g6 (j := 10) (x := g6 171 10 + 1) (Or.inl rfl)
              exact ih _ _ (k + 1) (m + 1) _ (by omega) (hR6.op o7) at7 ((mz5.rd o6).rd o7) lv5 (by omega) fun g' o => kk g' (o4.y.trans (o5.trans (o6.y.trans (o7.y.trans o))))
            · rw [if_neg (show ¬ S m = 1030 from v)] at kk
              rw [w0]
              exact ⟨fun v => absurd rfl v, fun _ => (kk g6 (o4.y.trans (o5.trans o6.y))).2 Bool.false_ne_true h6⟩
          · rw [if_pos (fe.mp (Decidable.not_not.mp q))] at kk
            exact (kk g6 (o4.y.trans (o5.trans o6.y))).1 rfl _ (mz5.rd o6) lv5
        · rw [el] at kk
          simp only at kk
          rw [if_neg Bool.false_ne_true] at kk
          rw [w0]
          refine ⟨fun _ => bI_in ?_, fun q => absurd rfl q⟩
          rw [w0]
          exact ⟨fun q => absurd rfl q, fun _ => (kk g5 (o4.y.trans o5)).2 Bool.false_ne_true f5⟩
    exact key 12 _ 0 0 0 g3 (by decide) (hR2.op o3) (AT.self hS (by decide) n0.1 f3) mz3 lv0 (by decide) fun g' o => kk g' (o3.y.trans o)
  · rw [if_pos (fin0.mp (Decidable.not_not.mp c))] at kk
    exact (kk g3 o3.y).1 rfl 0 mz3 lv0
/-- what the new law is -/
def NL (V W : VV) (k : Int) (V' : VV) : Prop := V' 2 = 1 ∧ V' 486 = k ∧ (∀ j, 0 ≤ j → j < 486 → j ≠ 2 → V' j = V j) ∧ ∃ c, LV W c k ∧ ∀ j, ((487 ≤ j ∧ j < 487 + 4 * k) ∨ (535 ≤ j ∧ j < 535 + 2 * c ∧ j < 1335)) → V' j = W j
theorem m_law (hS : TS T L n S P N) {F : Nat} (hF : 2410 ≤ F) (hT : MTp g T) (hn : g 171 9 = L)
    (kf : ¬ (laR S N F).1 = true → ∀ g', uM g g' → mEq g g' (fun a j => a = 172 ∨ (a = 171 ∧ (j = 9 ∨ j = 14))) → (∀ j, j < 1335 → g' 172 j = g 172 j) → g' 171 0 = 1 → g' 171 9 = 0 → g' 171 14 = P (laR S N F).2.1 → K (.inl (vI 0)) (stt g'))
    (kk : (laR S N F).1 = true → ∀ g', uM g g' → NL (g 172) (laR S N F).2.2.1 (laR S N F).2.2.2 (g' 172) → mEq g g' (fun a j => a = 172 ∨ (a = 171 ∧ (j = 7 ∨ j = 9 ∨ j = 14))) → g' 171 0 = 0 → g' 171 7 = 0 → g' 171 9 = 0 → g' 171 14 = -1 → K (.inl (vI (laR S N F).2.2.2)) (stt g')) : Ct Γ l (d + 32) b yX12_law mX12_law [vR 171] (stt g) K := by
  apply wpX12_law
  refine m_lawAll hS hF hT hn fun g1 p1 q1 z0 z9 => ?_
  have q1' : ∀ j, (j = 6 ∨ j = 7 ∨ j = 14) → g1 171 j = g 171 j := fun j hj => q1 j (by omega)
  refine ⟨fun z c mz lv => bI_in ?_, fun z f12 => bI_in ?_⟩
  · generalize laR S N F = r at kk mz lv z
    have k0 := lv.1
    rw [wr_id (x := r.2.2.2) (by omega) (by omega)]
    refine ⟨fun _ => ⟨fun _ g2 e2 => ?_, fun w => absurd k0.1 w⟩, fun w => absurd k0.1 w⟩
    have v2 : ∀ j, j ≠ 1335 → g2 172 j = g1 172 j := fun j hj => by rw [e2, upd2_nj hj, upd2_ne (by decide)]
    have u2 : g2 172 1335 = r.2.2.2 := by rw [e2, upd2_eq]
    have x2 : ∀ x j, x ≠ 172 → ¬ (x = 171 ∧ j = 14) → g2 x j = g1 x j := fun x j h1 h2 => by rw [e2, upd2_ne h1]; exact if_neg (fun w => h2 ⟨w.2, w.1⟩)
    have u14 : g2 171 14 = -1 := by rw [e2, upd2_ne (by decide), upd2_eq]
    refine up_loop (P := fun i => ∀ g', (∀ x j, x ≠ 172 → g' x j = g2 x j) → (∀ j, ¬ (486 ≤ j ∧ j < 486 + (i : Int)) → g' 172 j = g2 172 j) → (∀ j, 486 ≤ j → j < 486 + (i : Int) → g' 172 j = g2 172 (849 + j)) → AW Γ l mX12_law (d + 32) b 52 [vR 171, vI r.2.2.2, vI (i : Int)] [] (stt g') K) (N := 849) (fun g' o f q => ?_) (fun i hi9 hi g' o f q => ?_) 0 (Nat.zero_le _) g2 (fun _ _ _ => rfl) (fun _ _ => rfl) (fun j j0 j1 => absurd j1 (by omega))
    · apply wpX12_law_52
      refine ⟨fun _ => ?_, fun w => absurd (show 849 ≤ wr ((849 : Nat) : Int) by decide +kernel) w⟩
      have t : ∀ x j, ¬ (x = 172 ∧ j = 2) → ¬ (x = 171 ∧ j = 7) → (upd2 (upd2 g' 172 2 1) 171 7 0) x j = g' x j := fun x j h1 h2 => by
        rw [show upd2 (upd2 g' 172 2 1) 171 7 0 x j = upd2 g' 172 2 1 x j from if_neg (fun w => h2 ⟨w.2, w.1⟩)]
        exact if_neg (fun w => h1 ⟨w.2, w.1⟩)
      have t2 : (upd2 (upd2 g' 172 2 1) 171 7 0) 172 2 = 1 := by rw [upd2_ne (by decide), upd2_eq]
      have t7 : (upd2 (upd2 g' 172 2 1) 171 7 0) 171 7 = 0 := upd2_eq
      refine kk z _ (fun x j hx => by rw [t _ _ (by omega) (by omega), o _ _ (by omega), x2 _ _ (by omega) (by omega), p1 _ _ (by omega) (by omega)]) ⟨t2, ?_, fun j j0 j1 j2 => ?_, c, lv, fun j hj => ?_⟩ (fun x j hx hn2 => ?_) (by rw [t _ _ (by omega) (by omega), o _ _ (by decide), x2 _ _ (by decide) (by omega)]; exact z0) t7 (by rw [t _ _ (by omega) (by omega), o _ _ (by decide), x2 _ _ (by decide) (by omega)]; exact z9) (by rw [t _ _ (by omega) (by omega), o _ _ (by decide)]; exact u14)
      · rw [t _ _ (by omega) (by omega), q 486 (by decide) (by decide)]; exact u2
      · rw [t _ _ (by omega) (by omega), f j (by omega), v2 _ (by omega), p1 _ _ (by decide) (by omega)]
      · rw [t _ _ (by omega) (by omega), q j (by omega) (by omega), v2 _ (by omega)]
        exact mz.2 j (by omega)
      · have hn3 : ¬ (x = 172 ∨ (x = 171 ∧ (j = 7 ∨ j = 9 ∨ j = 14))) := hn2
        by_cases c3 : x = 171
        · subst c3
          have hx3 : j = 6 ∨ j = 7 ∨ j = 9 ∨ j = 14 := by unfold mX at hx; omega
          rw [t _ _ (by omega) (by omega), o _ _ (by decide), x2 _ _ (by decide) (by omega), q1' _ (by omega)]
        · rw [t _ _ (by omega) (by omega), o _ _ (by omega), x2 _ _ (by omega) (by omega), p1 _ _ c3 (by omega)]
    · apply wpX12_law_52
      rw [wr_id (x := (i : Int)) (by omega) (by omega), wr_id (x := 1335 + (i : Int)) (by omega) (by omega), wr_id (x := 486 + (i : Int)) (by omega) (by omega), f (1335 + (i : Int)) (by omega)]
      refine ⟨fun w => absurd w (by omega), fun _ => ⟨by omega, by omega, fun g3 e3 => hi g3 (fun x j hx => by rw [e3, upd2_ne hx, o x j hx]) (fun j hj => by rw [e3, upd2_nj (by omega), f j (by omega)]) (fun j j0 j1 => ?_)⟩⟩
      by_cases w : j = 486 + (i : Int)
      · rw [e3, w, upd2_eq, show 849 + (486 + (i : Int)) = 1335 + (i : Int) by omega]
      · rw [e3, upd2_nj w, q j j0 (by omega)]
  · rw [show wr (-1) = -1 by decide +kernel]
    refine ⟨fun w => absurd w (by decide), fun _ => ⟨fun w => absurd w (by decide), fun _ => ?_⟩⟩
    have t : ∀ x j, ¬ (x = 171 ∧ (j = 0 ∨ j = 14)) → (upd2 (upd2 g1 171 14 (g1 171 12)) 171 0 1) x j = g1 x j := fun x j h => by
      show (if j = 0 ∧ x = 171 then (1 : Int) else if j = 14 ∧ x = 171 then g1 171 12 else g1 x j) = g1 x j
      rw [if_neg (fun w => h ⟨w.2, Or.inl w.1⟩), if_neg (fun w => h ⟨w.2, Or.inr w.1⟩)]
    refine kf z _ (fun x j hx => by rw [t _ _ (by omega), p1 _ _ (by omega) (by omega)]) (fun x j hx hn2 => ?_) (fun j hj => by rw [t _ _ (by omega), p1 _ _ (by decide) (by omega)]) upd2_eq (by rw [t _ _ (by omega)]; exact z9) (by rw [upd2_nj (by decide), upd2_eq]; exact f12)
    have hn3 : ¬ (x = 172 ∨ (x = 171 ∧ (j = 9 ∨ j = 14))) := hn2
    by_cases c3 : x = 171
    · subst c3
      have hx3 : j = 6 ∨ j = 7 ∨ j = 9 ∨ j = 14 := by unfold mX at hx; omega
      rw [t _ _ (by omega), q1' _ (by omega)]
    · rw [t _ _ (by omega), p1 _ _ c3 (by omega)]
end MM9
