/-! A TEXT OF THE HILLS: the reference's reader, all of it -/
section MJ
variable {Γ : Cfg} {l : Launch} {d b : Nat} {g : GG} {K : Ou → HP → Prop} {T S P N : Int → Int} {L n p e x y a lo hi : Int} {V : VV}
theorem m_readNumber {i : Int} (hS : TS T L n S P N) (hR : RD g T L) (hA : AT g T L n P a) (hv : g 172 = V) (h9 : hi ≤ 999) (h0 : 0 ≤ hi) (i0 : 0 ≤ i) (i1 : i < 186) (k1 : isN S N a 0 hi → ∀ g', oW g g' → g' 172 = upV V i (N a) → AT g' T L n P (a + 1) → K (.inl (vI 1)) (stt g')) (k0 : ¬ isN S N a 0 hi → ∀ g', oW g g' → g' 171 12 = P a → K (.inl (vI 0)) (stt g')) : Ct Γ l (d + 3) b yX12_readNumber mX12_readNumber [vR 171, vI i, vI 0, vI hi] (stt g) K := by
  apply wpX12_readNumber
  refine m_number hS hR hA (by decide) h9 h0 (fun y1 y2 y3 g1 o1 at1 f1 => bI_in ?_) (fun y g1 o1 f1 => bI_in ?_)
  · rw [wr_id (x := N a) (by omega) (by omega), wr_id (x := i) (by omega) (by omega)]
    refine ⟨fun _ => ⟨by omega, fun q => absurd q (by omega), fun _ => k1 ⟨y1, y2, y3⟩ _ (o1.w.trans (oW.at g1 i0 i1)) ?_ (at1.v (upd2_ne (by decide)))⟩, fun q => absurd y2 q⟩
    rw [upd_172, o1.v, hv]
  · rw [show wr (-1) = -1 by decide +kernel, wr_id (x := i) (by omega) (by omega)]
    refine ⟨fun q => absurd q (by decide), fun _ => ⟨by omega, by omega, fun g2 e2 => ⟨fun _ => k0 y g2 ?_ ?_, fun q => absurd (by decide) q⟩⟩⟩
    · rw [e2]; exact o1.w.trans (oW.at g1 i0 i1)
    · rw [e2, upd2_ne (by decide)]; exact f1
theorem m_mode9 (hS : TS T L n S P N) (hR : RD g T L) (hA : AT g T L n P (a + 1)) (hv : g 172 = V) (kk : MH g T L n P (moR S N V a) K) : Ct Γ l (d + 4) b yX12_readMode mX12_readMode [vR 171] (stt g) K := by
  have w0 : wr 0 = 0 := by decide +kernel
  have w1 : wr 1 = 1 := by decide +kernel
  unfold moR at kk
  apply wpX12_readMode
  refine m_number hS hR hA (by decide) (by decide) (by decide) (fun y1 y2 y3 g1 o1 at1 f1 => bI_in ?_) (fun y g1 o1 f1 => bI_in ?_)
  · rw [if_pos (show isN S N (a + 1) 0 3 from ⟨y1, y2, y3⟩)] at kk
    rw [wr_id (x := N (a + 1)) (by omega) (by omega)]
    rw [show a + 1 + 1 = a + 2 by omega] at at1
    refine ⟨fun q => absurd q (by omega), fun _ => ?_⟩
    refine m_readNumber (V := V) hS (hR.op o1) at1 (by rw [o1.v]; exact hv) (by decide) (by decide) (by omega) (by omega) (fun z g2 o2 v2 at2 => bI_in ?_) (fun z g2 o2 f2 => bI_in ?_)
    · rw [if_pos z] at kk
      rw [w1]
      rw [show a + 2 + 1 = a + 3 by omega] at at2
      exact ⟨fun q => absurd q (by decide), fun _ => kk.yes (o1.w.trans o2) v2 at2⟩
    · rw [if_neg z] at kk
      rw [w0]
      exact ⟨fun _ => kk.no (o1.w.trans o2) f2, fun q => absurd rfl q⟩
  · rw [if_neg (show ¬ isN S N (a + 1) 0 3 from y)] at kk
    rw [show wr (-1) = -1 by decide +kernel]
    exact ⟨fun _ => kk.no o1.w f1, fun q => absurd (by decide) q⟩
theorem m_hillsLine (hS : TS T L n S P N) (hR : RD g T L) (a0 : 0 ≤ a) (a1 : a ≤ n) (hL : LT g T L P a) (hv : g 172 = V) (v0 : 0 ≤ V 0) (v6 : V 0 ≤ 6) (hz : ZP V) (kk : MH g T L n P (lnR S N V a) K) : Ct Γ l (d + 9) b yX12_readHillsLine mX12_readHillsLine [vR 171] (stt g) K := by
  have w0 : wr 0 = 0 := by decide +kernel
  have w1 : wr 1 = 1 := by decide +kernel
  have fin : ∀ (r : RR) (g' : GG), K (.inl (vI (if r.1 = true then 1 else 0))) (stt g') → (wr (if r.1 = true then 1 else 0) = 0 ∨ wr (if r.1 = true then 1 else 0) = 1) ∧ K (.inl (vI (if r.1 = true then 1 else 0))) (stt g') := fun r g' k => by
    by_cases z : r.1 = true
    · rw [if_pos z] at k ⊢; exact ⟨Or.inr w1, k⟩
    · rw [if_neg z] at k ⊢; exact ⟨Or.inl w0, k⟩
  have go : ∀ {A B : Prop}, A → (wr 1 = 0 → B) ∧ (¬ wr 1 = 0 → A) := fun h => ⟨fun c => absurd c (by rw [w1]; decide), fun _ => h⟩
  have no : ∀ {A B : Prop}, B → (wr 0 = 0 → B) ∧ (¬ wr 0 = 0 → A) := fun h => ⟨fun _ => h, fun c => absurd w0 c⟩
  have num : ∀ (i hi : Int) (K2 : Ou → HP → Prop), 0 ≤ i → i < 186 → 0 ≤ hi → hi ≤ 999 → AT g T L n P (a + 1) → MH g T L n P (nmR S N V a i hi) K2 → Ct Γ l (d + 8) 0 yX12_readNumber mX12_readNumber [vR 171, vI i, vI 0, vI hi] (stt g) K2 := by
    intro i hi K2 i0 i1 h0 h9 at1 k2
    unfold nmR at k2
    refine m_readNumber hS hR at1 hv h9 h0 i0 i1 (fun z g2 o2 v2 at2 => ?_) (fun z g2 o2 f2 => ?_)
    · rw [if_pos z] at k2
      rw [show a + 1 + 1 = a + 2 by omega] at at2
      exact k2.yes o2 v2 at2
    · rw [if_neg z] at k2
      exact k2.no o2 f2
  unfold lnR at kk
  apply wpX12_readHillsLine
  refine m_wd 2016 10 ⟨by decide, by decide⟩ (by decide +kernel) (by decide) hS hR a0 a1 hL (fun z q => bI_in (go ?_)) (fun z0 => bI_in (no ?_))
  · rw [if_pos (show S a = 1010 from z)] at kk
    exact m_person9 hS hR q hL hv v0 v6 hz fun g' o y1 y2 => bI_in (fin _ _ (kk g' o y1 y2))
  rw [if_neg (show ¬ S a = 1010 from z0)] at kk
  refine m_wd 2029 13 ⟨by decide, by decide⟩ (by decide +kernel) (by decide) hS hR a0 a1 hL (fun z q => bI_in (go ?_)) (fun z1 => bI_in (no ?_))
  · rw [if_pos (show S a = 1013 from z)] at kk
    exact m_mode9 hS hR q hv fun g' o y1 y2 => bI_in (fin _ _ (kk g' o y1 y2))
  rw [if_neg (show ¬ S a = 1013 from z1)] at kk
  refine m_wd 2030 14 ⟨by decide, by decide⟩ (by decide +kernel) (by decide) hS hR a0 a1 hL (fun z q => bI_in (go ?_)) (fun z2 => bI_in (no ?_))
  · rw [if_pos (show S a = 1014 from z)] at kk
    exact num 3 100 _ (by decide) (by decide) (by decide) (by decide) q fun g' o y1 y2 => bI_in (fin _ _ (kk g' o y1 y2))
  rw [if_neg (show ¬ S a = 1014 from z2)] at kk
  refine m_wd 2031 15 ⟨by decide, by decide⟩ (by decide +kernel) (by decide) hS hR a0 a1 hL (fun z q => bI_in (go ?_)) (fun z3 => bI_in (no ?_))
  · rw [if_pos (show S a = 1015 from z)] at kk
    exact num 4 999 _ (by decide) (by decide) (by decide) (by decide) q fun g' o y1 y2 => bI_in (fin _ _ (kk g' o y1 y2))
  rw [if_neg (show ¬ S a = 1015 from z3)] at kk
  refine m_wd 2032 16 ⟨by decide, by decide⟩ (by decide +kernel) (by decide) hS hR a0 a1 hL (fun z q => bI_in (go ?_)) (fun z4 => bI_in (no ?_))
  · rw [if_pos (show S a = 1016 from z)] at kk
    refine num 5 999 _ (by decide) (by decide) (by decide) (by decide) q fun g' o y1 y2 => bI_in ?_
    have k := kk g' o y1 y2
    by_cases w : (nmR S N V a 5 999).1 = true
    · rw [if_pos w] at k ⊢; exact go k
    · rw [if_neg w] at k ⊢; exact no k
  · rw [if_neg (show ¬ S a = 1016 from z4)] at kk
    exact kk.no oW.refl hL.1
theorem m_hillsLn (hS : TS T L n S P N) (hR : RD g T L) (hA : AT g T L n P a) (hv : g 172 = V) (v0 : 0 ≤ V 0) (v6 : V 0 ≤ 6) (hz : ZP V) (y0 : 0 ≤ y) (y1 : y ≤ 14) (k1 : y < 14 → MH g T L n P (lnR S N V a) K) (k0 : y = 14 → ∀ g', oW g g' → g' 171 12 = P a → K (.inl (vI 0)) (stt g')) : Ct Γ l (d + 10) b yX12_readLine mX12_readLine [vR 171, vI 1, vI y] (stt g) K := by
  have w0 : wr 0 = 0 := by decide +kernel
  have w1 : wr 1 = 1 := by decide +kernel
  apply wpX12_readLine
  refine m_let hS hR hA fun g1 o1 l1 => bV_in ?_
  rw [w1, wr_id (x := y) (by omega) (by omega)]
  refine ⟨fun q => absurd q (by decide), fun _ => ⟨fun q => k0 (by omega) g1 o1.w l1.1, fun q => ⟨fun q2 => absurd q2 (by decide), fun _ => ?_⟩⟩⟩
  have kk := (k1 (by omega)).up o1.w
  refine m_hillsLine hS (hR.op o1) hA.a0 hA.a1 l1 (by rw [o1.v]; exact hv) v0 v6 hz fun g' o z1 z2 => bI_in ?_
  have k := kk g' o z1 z2
  by_cases w : (lnR S N V a).1 = true
  · rw [if_pos w] at k ⊢; rw [w1]; exact ⟨fun c => absurd c (by decide), fun _ => k⟩
  · rw [if_neg w] at k ⊢; rw [w0]; exact ⟨fun _ => k, fun c => absurd rfl c⟩
/-- where all of it ends -/
def MA (g : GG) (T : Int → Int) (L n : Int) (P : Int → Int) (r : RR) (K : Ou → HP → Prop) : Prop := ∀ g', oW g g' → (r.1 = true → g' 172 = r.2.2 ∧ ∀ m, 0 ≤ m → m ≤ 14 → K (.inl (vI m)) (stt g')) ∧ (¬ r.1 = true → g' 171 12 = P r.2.1 → K (.inl (vI (-1))) (stt g'))
theorem m_mark (c : Int) (i : Nat) (hi : i < 36) (hc : ssB (sgS (1000 + i)) = [c]) (c0 : 0 ≤ c) (cl : c < 97) (cd : c < 48 ∨ 57 < c) (hS : TS T L n S P N) (hR : RD g T L) (a0 : 0 ≤ a) (a1 : a ≤ n) (hp : g 171 10 = P a) (k1 : S a = 1000 + i → AT (upd2 g 171 10 (g 171 10 + 1)) T L n P (a + 1) → K (.inl (vI 1)) (stt g)) (k0 : S a ≠ 1000 + i → K (.inl (vI 0)) (stt g)) : Ct Γ l d b yX12_isAt mX12_isAt [vR 171, vI c, vI c] (stt g) K := by
  have hP := hS.p a0 a1
  have w := mark_iff hS a0 a1 hi hc cl cd
  refine m_isAt hR hp hP.1 hP.2.1 c0 (by omega) (Int.le_refl _) (fun z1 z2 z3 => ?_) (fun z => k0 (fun q => z ?_))
  · have z : P a < L ∧ T (P a) = c := ⟨z1, by omega⟩
    have nx := mark_nx hS a0 a1 z cl cd
    refine k1 (w.mp z) ⟨⟨by omega, by omega, ?_⟩, ?_⟩
    · rw [upd2_eq, hp]; omega
    · rw [upd2_eq, hp]; exact nx.2
  · have := w.mpr q
    omega
theorem TS.fin {a : Int} (hS : TS T L n S P N) (a0 : 0 ≤ a) (a1 : a ≤ n) : P a = L ↔ S a = 1037 := by
  have hp := hS.p a0 a1
  have he := hS.end a0 a1
  constructor
  · intro z
    refine he.mpr ?_
    by_cases c : a < n
    · have := hp.2.2.1 c; omega
    · omega
  · intro z
    rw [he.mp z]
    exact hS.1.2.2
theorem m_hillsAll {m : GG} (hV : WF V) (hq : ZQ V) (hS : TS T L n S P N) (hT : MTp m T) (hn : m 171 9 = L) (hv : m 172 = V) (kk : ∀ g', (∀ x j, x ≠ 171 → ¬ (x = 172 ∧ 0 ≤ j ∧ j < 186) → g' x j = m x j) → (∀ j, ¬ (j = 0 ∨ j = 9 ∨ j = 10 ∨ j = 11 ∨ j = 12 ∨ j = 16 ∨ j = 17) → g' 171 j = m 171 j) → g' 171 0 = 0 → g' 171 9 = 0 → ((hiR S N V).1 = true → g' 172 = (hiR S N V).2.2 → ∀ y, 0 ≤ y → y ≤ 14 → K (.inl (vI y)) (stt g')) ∧ (¬ (hiR S N V).1 = true → g' 171 12 = P (hiR S N V).2.1 → K (.inl (vI (-1))) (stt g'))) : Ct Γ l (d + 11) b yX12_readAll mX12_readAll [vR 171, vI 1] (stt m) K := by
  have w0 : wr 0 = 0 := by decide +kernel
  have w1 : wr 1 = 1 := by decide +kernel
  have n0 := hS.1.1
  apply wpX12_readAll
  refine m_uses hn fun g1 c1 c2 c3 c4 c5 c6 => bV_in ?_
  have f9 : g1 171 9 = 0 := c1.2
  have u : ∀ x j, ¬ (x = 171 ∧ j = 17) → upd2 g1 171 17 0 x j = g1 x j := fun x j h => if_neg (fun z => h ⟨z.2, z.1⟩)
  generalize upd2 g1 171 17 0 = g2 at u ⊢
  have hR2 : RD g2 T L := ⟨fun i i0 i1 => by rw [u _ _ (by omega), c4 _ _ (by decide)]; exact hT i i0 i1, by rw [u _ _ (by omega)]; exact c3, n0.2.2⟩
  have at2 : AT g2 T L n P 0 := by
    obtain ⟨e, h1, h2⟩ := hS.2.2 0 (by decide) n0.1
    have e0 : e = 0 := by
      rcases h1 with h1 | h1
      · exact h1.2
      · omega
    refine ⟨⟨by decide, n0.1, ?_⟩, ?_⟩
    · rw [u _ _ (by omega), c6]; decide
    · rw [e0] at h2
      rw [u _ _ (by omega), c6]
      exact h2
  have v2 : g2 172 = V := by
    rw [← hv]
    exact funext fun j => by rw [u _ _ (by omega), c4 _ _ (by decide)]
  have kk : ∀ g', oW g2 g' → ((hiR S N V).1 = true → g' 172 = (hiR S N V).2.2 → ∀ y, 0 ≤ y → y ≤ 14 → K (.inl (vI y)) (stt g')) ∧ (¬ (hiR S N V).1 = true → g' 171 12 = P (hiR S N V).2.1 → K (.inl (vI (-1))) (stt g')) := fun g' o => kk g' (fun x j h1 h2 => by rw [o x j (by omega) h2, u _ _ (by omega), c4 _ _ h1]) (fun j h1 => by rw [o _ _ (by omega) (by omega), u _ _ (by omega), c5 _ (by omega) (by omega) (by omega) (by omega)]) (by rw [o _ _ (by omega) (by omega), u _ _ (by omega)]; exact c2) (by rw [o _ _ (by omega) (by omega), u _ _ (by omega)]; exact f9)
  refine m_bl hR2 at2 fun g3 o3 f3 h3 => bV_in ?_
  have hp := hS.p (a := 0) (by decide) n0.1
  have e11 : g3 171 11 = L := (hR2.op o3).2.1
  rw [f3, e11, wr_id (x := P 0) (by omega) (by omega), wr_id (x := L) (by omega) (by omega)]
  have fin0 := hS.fin (a := 0) (by decide) n0.1
  unfold hiR at kk
  refine ⟨fun c => ?_, fun c => ?_⟩
  · rw [if_neg (fun z => c (fin0.mpr z))] at kk
    have key : ∀ (f : Nat) (V : VV) (g : GG) (a y : Int), (f : Int) + y = 14 → 0 ≤ y → g 172 = V → WF V → ZQ V → RD g T L → AT g T L n P a → (∀ g', oW g g' → ((txR S N f V a).1 = true → g' 172 = (txR S N f V a).2.2 → ∀ y, 0 ≤ y → y ≤ 14 → K (.inl (vI y)) (stt g')) ∧ (¬ (txR S N f V a).1 = true → g' 171 12 = P (txR S N f V a).2.1 → K (.inl (vI (-1))) (stt g'))) → AW Γ l mX12_readAll (d + 11) b 28 [vR 171, vI 1, vI y] [] (stt g) K := by
      intro f
      induction f with
      | zero =>
        intro V g a y hy y0 hv hV hq hR hA kk
        apply wpX12_readAll_28
        refine m_hillsLn hS hR hA hv hV.1.1.1 hV.1.1.2 hq.1 y0 (by omega) (fun z => absurd z (by omega)) (fun _ g4 o4 f4 => bI_in ?_)
        rw [w0]
        exact ⟨fun z => absurd rfl z, fun _ => (kk g4 o4).2 Bool.false_ne_true f4⟩
      | succ f ih =>
        intro V g a y hy y0 hv hV hq hR hA kk
        apply wpX12_readAll_28
        refine m_hillsLn hS hR hA hv hV.1.1.1 hV.1.1.2 hq.1 y0 (by omega) (fun z => ?_) (fun z => absurd z (by omega))
        have hw := ln_wf (S := S) (N := N) (a := a) hV hq
        unfold txR at kk
        generalize lnR S N V a = r at kk hw ⊢
        simp only at kk
        intro g4 o4 y4 n4
        by_cases c : r.1 = true
        · rw [if_pos c] at kk ⊢
          obtain ⟨v4, at4⟩ := y4 c
          have hk := hw c
          refine bI_in ?_
          rw [w1]
          refine ⟨fun _ => ?_, fun z => absurd (show (1 : Int) ≠ 0 by decide) z⟩
          have hR4 := hR.ow o4
          refine m_bl hR4 at4 fun g5 o5 f5 h5 => bV_in ?_
          have hp := hS.p at4.a0 at4.a1
          have hR5 := hR4.op o5
          rw [f5, hR5.2.1, wr_id (x := P r.2.1) (by omega) (by omega), wr_id (x := L) (by omega) (by omega)]
          have fe := hS.fin at4.a0 at4.a1
          refine ⟨fun q => ?_, fun q => ?_⟩
          · rw [if_neg (fun z => q (fe.mpr z))] at kk
            refine m_mark 59 30 (by decide) (by decide +kernel) (by decide) (by decide) (by decide) hS hR5 at4.a0 at4.a1 f5 (fun z at6 => bI_in ?_) (fun z => bI_in ?_)
            · rw [if_pos (show S r.2.1 = 1030 from z)] at kk
              rw [w1]
              refine ⟨fun _ => ?_, fun z => absurd (show (1 : Int) ≠ 0 by decide) z⟩
              have o6 := oRd.at g5 (j := 10) (x := g5 171 10 + 1) (Or.inl rfl)
              refine ih r.2.2 _ _ (y + 1) (by omega) (by omega) ?_ hk.1.1 hk.1.2 (hR5.op o6) at6 fun g' o => kk g' (o4.trans (o5.w.trans (o6.w.trans o)))
              rw [o6.v, o5.v]; exact v4
            · rw [if_neg (show ¬ S r.2.1 = 1030 from z)] at kk
              rw [w0]
              exact ⟨fun z => absurd rfl z, fun _ => (kk g5 (o4.trans o5.w)).2 Bool.false_ne_true h5⟩
          · rw [if_pos (fe.mp (Decidable.not_not.mp q))] at kk
            exact (kk g5 (o4.trans o5.w)).1 c (by rw [o5.v]; exact v4) (y + 1) (by omega) (by omega)
        · rw [if_neg c] at kk ⊢
          refine bI_in ?_
          rw [w0]
          exact ⟨fun z => absurd rfl z, fun _ => (kk g4 o4).2 c (n4 c)⟩
    refine key 14 V g3 0 0 (by decide) (by decide) (by rw [o3.v]; exact v2) hV hq (hR2.op o3) (AT.self hS (by decide) n0.1 f3) fun g' o => kk g' (o3.w.trans o)
  · rw [if_pos (fin0.mp (Decidable.not_not.mp c))] at kk
    exact (kk g3 o3.w).1 rfl (by rw [o3.v]; exact v2) 0 (by decide) (by decide)
end MJ
