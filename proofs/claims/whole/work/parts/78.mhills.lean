/-! A TEXT OF THE HILLS: the reference's reader -/
/-- what reading the hills changes in the reference -/
def oW (g g' : GG) : Prop := ∀ x j, ¬ (x = 171 ∧ (j = 10 ∨ j = 12 ∨ j = 16)) → ¬ (x = 172 ∧ 0 ≤ j ∧ j < 186) → g' x j = g x j
theorem oRd.w {g g' : GG} (h : oRd g g') : oW g g' := fun x j h1 h2 => h x j (by omega)
theorem oW.trans {g1 g2 g3 : GG} (h : oW g1 g2) (h' : oW g2 g3) : oW g1 g3 := fun x j h1 h2 => by rw [h' x j h1 h2, h x j h1 h2]
theorem oW.refl {g : GG} : oW g g := fun _ _ _ _ => rfl
theorem RD.ow {g g' : GG} {T : Int → Int} {L : Int} (h : RD g T L) (o : oW g g') : RD g' T L := ⟨fun i i0 i1 => by rw [o _ _ (by omega) (by omega)]; exact h.1 i i0 i1, by rw [o _ _ (by omega) (by omega)]; exact h.2.1, h.2.2⟩
theorem oRd.v {g g' : GG} (h : oRd g g') : g' 172 = g 172 := funext fun j => h _ _ (by omega)
theorem upd_172 {g : GG} {i x : Int} : (upd2 g 172 i x) 172 = upV (g 172) i x := funext fun j => by
  by_cases c : j = i
  · rw [c, upd2_eq, upV_eq]
  · rw [upd2_nj c, upV_ne c]
theorem oW.at (g : GG) {i x : Int} (h0 : 0 ≤ i) (h1 : i < 186) : oW g (upd2 g 172 i x) := fun a j _ h2 => if_neg (fun z => h2 ⟨z.2, by omega, by omega⟩)
section MH
variable {Γ : Cfg} {l : Launch} {d b : Nat} {g : GG} {K : Ou → HP → Prop} {T S P N : Int → Int} {L n p e x y a lo hi : Int} {V : VV}
theorem AT.v {g g' : GG} (h : AT g T L n P a) (e : g' 171 10 = g 171 10) : AT g' T L n P a := by
  unfold AT
  rw [e]
  exact h
/-- where a reading of the reference ends -/
def MH (g : GG) (T : Int → Int) (L n : Int) (P : Int → Int) (r : RR) (K : Ou → HP → Prop) : Prop := ∀ g', oW g g' → (r.1 = true → g' 172 = r.2.2 ∧ AT g' T L n P r.2.1) → (¬ r.1 = true → g' 171 12 = P r.2.1) → K (.inl (vI (if r.1 = true then 1 else 0))) (stt g')
theorem MH.up {g g' : GG} {r : RR} (h : MH g T L n P r K) (o : oW g g') : MH g' T L n P r K := fun g2 o2 => h g2 (o.trans o2)
theorem MH.no {g : GG} {m : Int} {W : VV} (h : MH g T L n P (false, m, W) K) {g' : GG} (o : oW g g') (f : g' 171 12 = P m) : K (.inl (vI 0)) (stt g') := h g' o (fun z => absurd z Bool.false_ne_true) (fun _ => f)
theorem MH.yes {g : GG} {m : Int} {W : VV} (h : MH g T L n P (true, m, W) K) {g' : GG} (o : oW g g') (e : g' 172 = W) (f : AT g' T L n P m) : K (.inl (vI 1)) (stt g') := h g' o (fun _ => ⟨e, f⟩) (fun z => absurd rfl z)
theorem m_kindRead (hS : TS T L n S P N) (hR : RD g T L) (a0 : 0 ≤ a) (a1 : a ≤ n) (hL : LT g T L P a) (kk : (sgK (S a) ≠ -1 → AT g T L n P (a + 1)) → K (.inl (vI (sgK (S a)))) (stt g)) : Ct Γ l (d + 5) b yX12_kindRead mX12_kindRead [vR 171] (stt g) K := by
  have w0 : wr 0 = 0 := by decide +kernel
  have w1 : wr 1 = 1 := by decide +kernel
  have yes : ∀ i : Int, S a = 1000 + i → sgK (1000 + i) = i → AT g T L n P (a + 1) → K (.inl (vI i)) (stt g) := fun i z q at1 => by
    have k := kk (fun _ => at1)
    rw [z, q] at k
    exact k
  have go : ∀ {A B : Prop}, A → (wr 1 = 0 → B) ∧ (¬ wr 1 = 0 → A) := fun h => ⟨fun c => absurd c (by rw [w1]; decide), fun _ => h⟩
  have no : ∀ {A B : Prop}, B → (wr 0 = 0 → B) ∧ (¬ wr 0 = 0 → A) := fun h => ⟨fun _ => h, fun c => absurd w0 c⟩
  apply wpX12_kindRead
  refine m_wd 2017 0 ⟨by decide, by decide⟩ (by decide +kernel) (by decide) hS hR a0 a1 hL (fun z q => bI_in (go (yes 0 z (by decide +kernel) q))) (fun z0 => bI_in (no ?_))
  refine m_wd 2018 1 ⟨by decide, by decide⟩ (by decide +kernel) (by decide) hS hR a0 a1 hL (fun z q => bI_in (go (yes 1 z (by decide +kernel) q))) (fun z1 => bI_in (no ?_))
  refine m_wd 2019 2 ⟨by decide, by decide⟩ (by decide +kernel) (by decide) hS hR a0 a1 hL (fun z q => bI_in (go (yes 2 z (by decide +kernel) q))) (fun z2 => bI_in (no ?_))
  refine m_wd 2020 3 ⟨by decide, by decide⟩ (by decide +kernel) (by decide) hS hR a0 a1 hL (fun z q => bI_in (go (yes 3 z (by decide +kernel) q))) (fun z3 => bI_in (no ?_))
  refine m_wd 2021 4 ⟨by decide, by decide⟩ (by decide +kernel) (by decide) hS hR a0 a1 hL (fun z q => bI_in (go (yes 4 z (by decide +kernel) q))) (fun z4 => bI_in (no ?_))
  refine m_wd 2022 5 ⟨by decide, by decide⟩ (by decide +kernel) (by decide) hS hR a0 a1 hL (fun z q => bI_in (go (yes 5 z (by decide +kernel) q))) (fun z5 => bI_in (no ?_))
  refine m_wd 2023 6 ⟨by decide, by decide⟩ (by decide +kernel) (by decide) hS hR a0 a1 hL (fun z q => bI_in (go (yes 6 z (by decide +kernel) q))) (fun z6 => bI_in (no ?_))
  refine m_wd 2024 7 ⟨by decide, by decide⟩ (by decide +kernel) (by decide) hS hR a0 a1 hL (fun z q => bI_in (go (yes 7 z (by decide +kernel) q))) (fun z7 => bI_in (no ?_))
  refine m_wd 2025 8 ⟨by decide, by decide⟩ (by decide +kernel) (by decide) hS hR a0 a1 hL (fun z q => bI_in (go (yes 8 z (by decide +kernel) q))) (fun z8 => bI_in (no ?_))
  have sk := sgK_rng (hS.sg a0 a1)
  refine m_wd 2026 9 ⟨by decide, by decide⟩ (by decide +kernel) (by decide) hS hR a0 a1 hL (fun z q => bI_in (go (yes 9 z (by decide +kernel) q))) (fun z9 => bI_in (no ?_))
  have e : sgK (S a) = -1 := by
    by_cases c : sgK (S a) = -1
    · exact c
    · have := sk.2.2.1 c
      omega
  have k := kk (fun z => absurd e z)
  rw [e] at k
  exact k
theorem m_oathWord {w wi k : Int} (hS : TS T L n S P N) (hR : RD g T L) (p0 : 0 ≤ p) (p1 : p < 6) (w0 : 0 ≤ w) (w12 : w ≤ 12) (k0 : 0 ≤ k) (k9 : k ≤ 9) (hv : g 172 = upV V (12 + 29 * p + 0) w) (h16 : g 171 16 = wi) (i0 : 0 ≤ wi) (i1 : wi ≤ 3) (hA : AT g T L n P (a + 1))
    (bad : (w = 12 ∨ opN k wi < 0 ∨ 3 < opN k wi) → ∀ g', oW g g' → g' 171 12 = g 171 12 → K (.inl (vI 0)) (stt g')) (noN : ¬ (w = 12 ∨ opN k wi < 0 ∨ 3 < opN k wi) → hsN k → ¬ isN S N (a + 1) 0 9 → ∀ g', oW g g' → g' 171 12 = P (a + 1) → K (.inl (vI 0)) (stt g'))
    (ok : ¬ (w = 12 ∨ opN k wi < 0 ∨ 3 < opN k wi) → (hsN k → isN S N (a + 1) 0 9) → ∀ g', oW g g' → g' 172 = upV (wvS V p w k (if hsN k then N (a + 1) else 0)) (12 + 29 * p + 0) (w + 1) → g' 171 16 = opN k wi → AT g' T L n P (if hsN k then a + 2 else a + 1) → K (.inl (vI 1)) (stt g')) : Ct Γ l (d + 4) b yX12_readOathWord mX12_readOathWord [vR 171, vI p, vI k] (stt g) K := by
  have wr0 : wr 0 = 0 := by decide +kernel
  have wr1 : wr 1 = 1 := by decide +kernel
  have e0 : ofP g p 0 = w := by
    unfold ofP
    rw [wr_id (x := 12 + 29 * p + 0) (by omega) (by omega), hv, upV_eq]
  apply wpX12_readOathWord
  rw [e0, h16, wr_id (x := k) (by omega) (by omega)]
  refine ⟨by unfold okP; rw [wr_id (by omega) (by omega)]; omega, ?_⟩
  have key : ∀ s0 : Int, wi + s0 = opN k wi → AW Γ l mX12_readOathWord (d + 4) b 33 [vR 171, vI p, vI k, vI w, vU] [vI s0, vI wi, vR 171] (stt g) K := by
    intro s0 es
    have o1 : oW g (upd2 g 171 16 (opN k wi)) := fun x j h1 h2 => if_neg (fun z => h1 ⟨z.2, by omega⟩)
    have f12 : upd2 g 171 16 (opN k wi) 171 12 = g 171 12 := upd2_nj (by decide)
    have e16 : upd2 g 171 16 (opN k wi) 171 16 = opN k wi := upd2_eq
    have ev : (upd2 g 171 16 (opN k wi)) 172 = g 172 := funext fun j => upd2_ne (by decide)
    have hA1 : AT (upd2 g 171 16 (opN k wi)) T L n P (a + 1) := hA.v (upd2_nj (by decide))
    apply wpX12_readOathWord_33
    rw [es]
    generalize upd2 g 171 16 (opN k wi) = g1 at *
    have ho : -1 ≤ opN k wi ∧ opN k wi ≤ 4 := by unfold opN; omega
    rw [e16, wr_id (x := w) (by omega) (by omega), wr_id (x := opN k wi) (by omega) (by omega)]
    have b55 : (w = 12 ∨ opN k wi < 0 ∨ 3 < opN k wi) → AW Γ l mX12_readOathWord (d + 4) b 55 [vR 171, vI p, vI k, vI w, vU] [] (stt g1) K := fun z => by
      apply wpX12_readOathWord_55
      exact bad z g1 o1 f12
    refine ⟨fun z => b55 (Or.inl z), fun z => ⟨fun z2 => ?_, fun z2 => b55 (by omega)⟩⟩
    have nb : ¬ (w = 12 ∨ opN k wi < 0 ∨ 3 < opN k wi) := by omega
    have at75 : ∀ (n9 m : Int) (g2 : GG), 0 ≤ n9 → n9 ≤ 9 → oW g g2 → g2 172 = g 172 → g2 171 16 = opN k wi → AT g2 T L n P m → n9 = (if hsN k then N (a + 1) else 0) → m = (if hsN k then a + 2 else a + 1) → (hsN k → isN S N (a + 1) 0 9) → AW Γ l mX12_readOathWord (d + 4) b 75 [vR 171, vI p, vI k, vI w, vU] [vI n9] (stt g2) K := by
      intro n9 m g2 a9 b9 o2 v2 h2 at2 en em hh
      apply wpX12_readOathWord_75
      rw [wr_id (x := n9) (by omega) (by omega), wr_id (x := 12 + 29 * p + (5 + 2 * w)) (by omega) (by omega), wr_id (x := 12 + 29 * p + (5 + 2 * w + 1)) (by omega) (by omega), wr_id (x := 12 + 29 * p + 0) (by omega) (by omega)]
      refine ⟨fun _ => ⟨by omega, fun g3 e3 => ⟨by omega, fun g4 e4 => ⟨by omega, by omega, fun g5 e5 => ?_⟩⟩⟩, fun c => absurd a9 c⟩
      have o3 : oW g2 g3 := by rw [e3]; exact oW.at g2 (by omega) (by omega)
      have o4 : oW g3 g4 := by rw [e4]; exact oW.at g3 (by omega) (by omega)
      have o5 : oW g4 g5 := by rw [e5]; exact oW.at g4 (by omega) (by omega)
      have v4 : g4 172 (12 + 29 * p + 0) = w := by rw [e4, upd2_nj (by omega), e3, upd2_nj (by omega), v2, hv, upV_eq]
      have x5 : ∀ j, g5 171 j = g2 171 j := fun j => by rw [e5, upd2_ne (by decide), e4, upd2_ne (by decide), e3, upd2_ne (by decide)]
      refine ok nb hh g5 (o2.trans (o3.trans (o4.trans o5))) ?_ (by rw [x5, h2]) (by rw [← em]; exact at2.v (x5 10))
      rw [e5, upd_172, v4, e4, upd_172, e3, upd_172, v2, hv, ← en]
      funext j
      by_cases c : j = 12 + 29 * p + 0
      · rw [c, upV_eq, upV_eq]
      · rw [upV_ne c, upV_ne c]
        unfold wvS
        by_cases c2 : j = 12 + 29 * p + (5 + 2 * w + 1)
        · rw [c2, upV_eq, upV_eq]
        · rw [upV_ne c2, upV_ne c2]
          by_cases c3 : j = 12 + 29 * p + (5 + 2 * w)
          · rw [c3, upV_eq, upV_eq]
          · rw [upV_ne c3, upV_ne c3, upV_ne c]
    have num : hsN k → Ct Γ l (d + 3) 0 yX12_number mX12_number [vR 171, vI 0, vI 9] (stt g1) (bI (fun v2 g2 => AW Γ l mX12_readOathWord (d + 4) b 75 [vR 171, vI p, vI k, vI w, vU] [vI v2] (stt g2) K) K) := fun hk => by
      refine m_number hS (hR.ow o1) hA1 (by decide) (by decide) (by decide) (fun y1 y2 y3 g2 o2 at2 f2 => bI_in ?_) (fun y g2 o2 f2 => bI_in ?_)
      · refine at75 _ (a + 2) g2 y2 y3 (o1.trans o2.w) (by rw [o2.v, ev]) (by rw [o2 _ _ (by omega), e16]) (by rw [show a + 1 + 1 = a + 2 by omega] at at2; exact at2) (by rw [if_pos hk]) (by rw [if_pos hk]) (fun _ => ⟨y1, y2, y3⟩)
      · apply wpX12_readOathWord_75
        rw [show wr (-1) = -1 by decide +kernel]
        exact ⟨fun c => absurd c (by decide), fun _ => noN nb hk y g2 (o1.trans o2.w) f2⟩
    apply wpX12_hasNumber
    rw [wr_id (x := k) (by omega) (by omega)]
    have yes : hsN k → (bI (fun v1 g1 => (wr v1 = 0 → AW Γ l mX12_readOathWord (d + 4) b 75 [vR 171, vI p, vI k, vI w, vU] [vI 0] (stt g1) K) ∧ (¬ (wr v1 = 0) → Ct Γ l (d + 3) 0 yX12_number mX12_number [vR 171, vI 0, vI 9] (stt g1) (bI (fun v2 g2 => AW Γ l mX12_readOathWord (d + 4) b 75 [vR 171, vI p, vI k, vI w, vU] [vI v2] (stt g2) K) K))) K) (.inl (vI 1)) (stt g1) := fun hk => bI_in (by
      rw [wr1]
      exact ⟨fun c => absurd c (by decide), fun _ => num hk⟩)
    refine ⟨fun c => yes (by omega), fun c3 => ⟨fun c => yes (by omega), fun c4 => ⟨fun c => yes (by omega), fun c6 => ⟨fun c7 => bI_in ?_, fun c => yes (by omega)⟩⟩⟩⟩
    have hk : ¬ hsN k := by omega
    rw [wr0]
    refine ⟨fun _ => at75 0 (a + 1) g1 (by decide) (by decide) o1 ev e16 hA1 (by rw [if_neg hk]) (by rw [if_neg hk]) (fun z => absurd z hk), fun c => absurd rfl c⟩
  refine ⟨fun z8 => ⟨fun z9 => key 0 ?_, fun z9 => key (-1) ?_⟩, fun z8 => key 1 ?_⟩
  · unfold opN; rw [if_neg z8, if_neg z9]
  · unfold opN; rw [if_neg z8, if_pos (by omega)]
  · unfold opN; rw [if_pos (by omega)]
theorem m_words (hS : TS T L n S P N) (p0 : 0 ≤ p) (p1 : p < 6) : ∀ (f : Nat) (V : VV) (g : GG) (a w wi : Int), (f : Int) + w = 12 → 0 ≤ w → RD g T L → 0 ≤ a → a ≤ n → g 172 = upV V (12 + 29 * p + 0) w → g 171 16 = wi → LT g T L P a → (sgK (S a) ≠ -1 → AT g T L n P (a + 1)) → 0 ≤ wi → wi ≤ 3 → (w = 0 → sgK (S a) ≠ -1) → MH g T L n P (wdR S N p f V a w wi) K → AW Γ l mX12_readOath (d + 6) b 20 [vR 171, vI p, vI (sgK (S a))] [] (stt g) K := by
  have w0' : wr 0 = 0 := by decide +kernel
  have w1' : wr 1 = 1 := by decide +kernel
  have fin : ∀ (V : VV) (g : GG) (a w wi : Int), 0 ≤ w → 0 ≤ a → a ≤ n → g 172 = upV V (12 + 29 * p + 0) w → g 171 16 = wi → LT g T L P a → 0 ≤ wi → wi ≤ 3 → (w = 0 → sgK (S a) ≠ -1) → sgK (S a) = -1 → MH g T L n P (decide (0 < w ∧ wi = 0 ∧ sgK (S a) = -1), a, upV V (12 + 29 * p + 0) w) K → AW Γ l mX12_readOath (d + 6) b 20 [vR 171, vI p, vI (sgK (S a))] [] (stt g) K := by
    intro V g a w wi w0 a0 a1 hv h16 hL i0 i1 hw0 c kk
    apply wpX12_readOath_20
    rw [c, show wr (-1) = -1 by decide +kernel, upd2_nj (show (16 : Int) ≠ 10 by decide), h16, wr_id (x := wi) (by omega) (by omega)]
    have hw : 0 < w := by
      by_cases z : w = 0
      · exact absurd c (hw0 z)
      · omega
    have at1 : AT (upd2 g 171 10 (g 171 12)) T L n P a := AT.self hS a0 a1 (by rw [upd2_eq]; exact hL.1)
    have o : oW g (upd2 g 171 10 (g 171 12)) := (oRd.at g (Or.inl rfl)).w
    refine ⟨fun _ => ⟨fun z => ?_, fun z => ?_⟩, fun z => absurd (by decide) z⟩
    · rw [decide_eq_false (fun q => z q.2.1)] at kk
      exact kk.no o (by rw [upd2_nj (by decide)]; exact hL.1)
    · rw [decide_eq_true ⟨hw, Decidable.not_not.mp z, c⟩] at kk
      exact kk.yes o (by rw [(oRd.at g (Or.inl rfl)).v]; exact hv) at1
  intro f
  induction f with
  | zero =>
    intro V g a w wi hw w0 hR a0 a1 hv h16 hL h9 i0 i1 hw0 kk
    by_cases c : sgK (S a) = -1
    · exact fin V g a w wi w0 a0 a1 hv h16 hL i0 i1 hw0 c kk
    have sk := sgK_any (S a)
    apply wpX12_readOath_20
    rw [wr_id (x := sgK (S a)) (by omega) (by omega)]
    refine ⟨fun z => absurd z (by omega), fun _ => ?_⟩
    unfold wdR at kk
    rw [decide_eq_false (fun q => c q.2.2)] at kk
    refine m_oathWord (V := V) hS hR p0 p1 w0 (by omega) (by omega) sk.2 hv h16 i0 i1 (h9 c) (fun _ g1 o1 f1 => bI_in ?_) (fun z => absurd (Or.inl (by omega)) z) (fun z => absurd (Or.inl (by omega)) z)
    rw [w0']
    exact ⟨fun z => absurd rfl z, fun _ => kk.no o1 (by rw [f1]; exact hL.1)⟩
  | succ f ih =>
    intro V g a w wi hw w0 hR a0 a1 hv h16 hL h9 i0 i1 hw0 kk
    have sk := sgK_any (S a)
    unfold wdR at kk
    by_cases c : sgK (S a) = -1
    · rw [if_pos c] at kk
      exact fin V g a w wi w0 a0 a1 hv h16 hL i0 i1 hw0 c kk
    rw [if_neg c] at kk
    apply wpX12_readOath_20
    rw [wr_id (x := sgK (S a)) (by omega) (by omega)]
    refine ⟨fun z => absurd z (by omega), fun _ => ?_⟩
    refine m_oathWord (V := V) hS hR p0 p1 w0 (by omega) (by omega) sk.2 hv h16 i0 i1 (h9 c) (fun z g1 o1 f1 => bI_in ?_) (fun z hk hn g1 o1 f1 => bI_in ?_) (fun z hn g1 o1 v1 q1 at1 => bI_in ?_)
    · rw [if_pos (by omega)] at kk
      rw [w0']
      exact ⟨fun z => absurd rfl z, fun _ => kk.no o1 (by rw [f1]; exact hL.1)⟩
    · rw [if_neg (by omega), if_pos hk, if_neg hn] at kk
      rw [w0']
      exact ⟨fun z => absurd rfl z, fun _ => kk.no o1 f1⟩
    · rw [if_neg (by omega)] at kk
      rw [w1']
      refine ⟨fun _ => ?_, fun z => absurd (show (1 : Int) ≠ 0 by decide) z⟩
      have k2 : MH g T L n P (wdR S N p f (wvS V p w (sgK (S a)) (if hsN (sgK (S a)) then N (a + 1) else 0)) (if hsN (sgK (S a)) then a + 2 else a + 1) (w + 1) (opN (sgK (S a)) wi)) K := by
        by_cases hk : hsN (sgK (S a))
        · rw [if_pos hk, if_pos (hn hk)] at kk
          rw [if_pos hk, if_pos hk]
          exact kk
        · rw [if_neg hk] at kk
          rw [if_neg hk, if_neg hk]
          exact kk
      have hR1 := hR.ow o1
      refine m_let hS hR1 at1 fun g2 o2 l2 => bV_in ?_
      refine m_kindRead hS (hR1.op o2) at1.a0 at1.a1 l2 fun h2 => bI_in ?_
      exact ih _ g2 _ (w + 1) _ (by omega) (by omega) (hR1.op o2) at1.a0 at1.a1 (by rw [o2.v]; exact v1) (by rw [o2 _ _ (by omega)]; exact q1) l2 h2 (by omega) (by omega) (fun y => absurd y (by omega)) (k2.up (o1.trans o2.w))
end MH
