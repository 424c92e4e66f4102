/-! A TEXT OF THE HILLS: the reference's call -/
section MK
variable {Γ : Cfg} {l : Launch} {d b : Nat} {g m : GG} {K : Ou → HP → Prop} {T S P N : Int → Int} {L n p e x y a lo hi : Int} {V : VV}
theorem m_restore {W : VV} (h4 : ∀ j, 0 ≤ j → j < 1335 → g 174 j = W j) (h2 : ∀ j, ¬ (0 ≤ j ∧ j < 1335) → g 172 j = W j) (kk : ∀ g', g' 172 = W → (∀ x j, x ≠ 172 → g' x j = g x j) → K (.inl (vI 0)) (stt g')) : AW Γ l mX12_hills (d + 1) b 92 [vR 171, vI y, vI 0] [] (stt g) K := by
  refine up_loop (P := fun i => ∀ g', (∀ x j, x ≠ 172 → g' x j = g x j) → (∀ j, 0 ≤ j → j < (i : Int) → g' 172 j = W j) → (∀ j, ¬ (0 ≤ j ∧ j < 1335) → g' 172 j = W j) → AW Γ l mX12_hills (d + 1) b 92 [vR 171, vI y, vI (i : Int)] [] (stt g') K) (N := 1335) (fun g' o f q => ?_) (fun i hi9 hi g' o f q => ?_) 0 (Nat.zero_le _) g (fun _ _ _ => rfl) (fun j j0 j1 => absurd j1 (by omega)) h2
  · apply wpX12_hills_92
    refine ⟨fun _ => kk g' (funext fun j => ?_) o, fun c => absurd (show 1335 ≤ wr ((1335 : Nat) : Int) by decide +kernel) c⟩
    by_cases c : 0 ≤ j ∧ j < 1335
    · exact f j c.1 (by omega)
    · exact q j c
  · apply wpX12_hills_92
    rw [wr_id (x := (i : Int)) (by omega) (by omega), o 174 _ (by decide), h4 _ (by omega) (by omega)]
    refine ⟨fun c => absurd c (by omega), fun _ => ⟨by omega, by omega, hi _ (fun x j hx => by rw [upd2_ne hx]; exact o x j hx) (fun j j0 j1 => ?_) (fun j hj => by rw [upd2_nj (by omega)]; exact q j hj)⟩⟩
    by_cases c : j = i
    · rw [c, upd2_eq]
    · rw [upd2_nj c]; exact f j j0 (by omega)
theorem m_hills (hV : WF V) (hq : ZQ V) (hS : TS T L n S P N) (hT : MTp g T) (hn : g 171 9 = L) (hv : g 172 = V)
    (kf : ¬ (hiR S N V).1 = true → ∀ g', uM g g' → mEq g g' (fun a j => a = 171 ∧ (j = 9 ∨ j = 14)) → g' 171 0 = 1 → g' 171 9 = 0 → g' 171 14 = P (hiR S N V).2.1 → K (.inl (vI 0)) (stt g'))
    (ku : (hiR S N V).1 = true → V 1 = 12 → ∀ g', uM g g' → mEq g g' (fun a j => a = 171 ∧ (j = 9 ∨ j = 14)) → g' 171 0 = 2 → g' 171 9 = 0 → g' 171 14 = -1 → K (.inl (vI 0)) (stt g'))
    (kk : (hiR S N V).1 = true → V 1 ≠ 12 → ∀ g', uM g g' → g' 172 = upV (hiR S N V).2.2 1 (V 1 + 1) → mEq g g' (fun a j => a = 172 ∨ (a = 171 ∧ (j = 7 ∨ j = 9 ∨ j = 14))) → g' 171 0 = 0 → g' 171 7 = 0 → g' 171 9 = 0 → g' 171 14 = -1 → K (.inl (vI (V 1 + 1))) (stt g')) : Ct Γ l (d + 12) b yX12_hills mX12_hills [vR 171] (stt g) K := by
  have v1 := hV.1.2.1
  have hwf := hi_wf (S := S) (N := N) hV hq
  apply wpX12_hills
  refine up_loop (P := fun i => ∀ g', (∀ x j, x ≠ 174 → g' x j = g x j) → (∀ j, 0 ≤ j → j < (i : Int) → g' 174 j = V j) → AW Γ l mX12_hills (d + 12) b 2 [vR 171, vI (i : Int), vU] [] (stt g') K) (N := 1335) (fun g' o f => ?_) (fun i hi9 hi g' o f => ?_) 0 (Nat.zero_le _) g (fun _ _ _ => rfl) (fun j j0 j1 => absurd j1 (by omega))
  · apply wpX12_hills_2
    refine ⟨fun _ => ?_, fun c => absurd (show 1335 ≤ wr ((1335 : Nat) : Int) by decide +kernel) c⟩
    have hv' : g' 172 = V := by rw [← hv]; exact funext fun j => o _ _ (by decide)
    refine m_hillsAll hV hq hS (fun i i0 i1 => by rw [o _ _ (by decide)]; exact hT i i0 i1) (by rw [o _ _ (by decide)]; exact hn) hv' fun g1 p1 q1 z1 z9 => ?_
    have x1 : ∀ x j, x ≠ 171 → x ≠ 174 → ¬ (x = 172 ∧ 0 ≤ j ∧ j < 186) → g1 x j = g x j := fun x j h1 h2 h3 => by rw [p1 x j h1 h3, o x j h2]
    have y1 : ∀ j, ¬ (j = 0 ∨ j = 9 ∨ j = 10 ∨ j = 11 ∨ j = 12 ∨ j = 16 ∨ j = 17) → g1 171 j = g 171 j := fun j h => by rw [q1 j h, o _ _ (by decide)]
    have back : ∀ (g2 : GG) (c w : Int), (∀ x j, ¬ (x = 171 ∧ (j = 0 ∨ j = 14)) → g2 x j = g1 x j) → g2 171 0 = c → g2 171 14 = w → (∀ g', uM g g' → mEq g g' (fun a j => a = 171 ∧ (j = 9 ∨ j = 14)) → g' 171 0 = c → g' 171 9 = 0 → g' 171 14 = w → K (.inl (vI 0)) (stt g')) → ∀ y : Int, AW Γ l mX12_hills (d + 12) b 92 [vR 171, vI y, vI 0] [] (stt g2) K := by
      intro g2 c w h1 h2 h3 k2 y
      refine m_restore (W := V) (fun j j0 j1 => by rw [h1 _ _ (by omega), p1 _ _ (by decide) (by omega)]; exact f j j0 (by omega)) (fun j hj => by rw [h1 _ _ (by omega), x1 _ _ (by decide) (by decide) (by omega), hv]) fun g3 e3 o3 => ?_
      refine k2 g3 (fun x j hx => by rw [o3 _ _ (by omega), h1 _ _ (by omega), x1 _ _ (by omega) (by omega) (by omega)]) (fun x j hx hn2 => ?_) (by rw [o3 _ _ (by decide), h2]) (by rw [o3 _ _ (by decide), h1 _ _ (by omega), z9]) (by rw [o3 _ _ (by decide), h3])
      by_cases c2 : x = 172
      · rw [c2, e3, hv]
      · rw [o3 _ _ c2]
        by_cases c3 : x = 171
        · rw [c3] at hx hn2 ⊢
          have hn3 : ¬ ((171 : Int) = 171 ∧ (j = 9 ∨ j = 14)) := hn2
          have hx3 : j = 6 ∨ j = 7 ∨ j = 9 ∨ j = 14 := by unfold mX at hx; omega
          rw [h1 _ _ (by omega), y1 _ (by omega)]
        · rw [h1 _ _ (by omega), x1 x j c3 (by unfold mX at hx; omega) (by omega)]
    refine ⟨fun z e1 y y0 y14 => bI_in ?_, fun z e1 => bI_in ?_⟩
    · rw [wr_id (x := y) (by omega) (by omega)]
      have hk := hwf z
      have e12 : upd2 g1 171 14 (-1) 172 1 = V 1 := by rw [upd2_ne (by decide), e1]; exact hk.2.1
      rw [e12, wr_id (x := V 1) (by omega) (by omega)]
      refine ⟨fun _ => ⟨fun _ => ⟨fun c g2 e2 => ?_, fun c => ?_⟩, fun c => absurd y0 c⟩, fun c => absurd y0 c⟩
      · have a2 : g2 172 = upV (hiR S N V).2.2 1 (V 1 + 1) := by
          rw [e2, upd_172]
          congr 1
          rw [← e1]
          exact funext fun j => upd2_ne (by decide)
        have b2 : ∀ x j, x ≠ 172 → ¬ (x = 171 ∧ j = 14) → g2 x j = g1 x j := fun x j h1 h2 => by
          rw [e2, upd2_ne h1]
          exact if_neg (fun w => h2 ⟨w.2, w.1⟩)
        have c14 : g2 171 14 = -1 := by rw [e2, upd2_ne (by decide), upd2_eq]
        have e9 : upd2 g2 171 7 0 172 1 = V 1 + 1 := by rw [upd2_ne (by decide), a2, upV_eq]
        rw [e9]
        refine kk z c _ (fun x j hx => by rw [upd2_ne (by omega), b2 _ _ (by omega) (by omega), x1 _ _ (by omega) (by omega) (by omega)]) (by rw [← a2]; exact funext fun j => upd2_ne (by decide)) (fun x j hx hn2 => ?_) (by rw [upd2_nj (by decide), b2 _ _ (by decide) (by omega), z1]) upd2_eq (by rw [upd2_nj (by decide), b2 _ _ (by decide) (by omega), z9]) (by rw [upd2_nj (by decide), c14])
        by_cases c3 : x = 171
        · rw [c3] at hx hn2 ⊢
          rw [upd2_nj (by omega), b2 _ _ (by decide) (by omega), y1 _ (by unfold mX at hx; omega)]
        · rw [upd2_ne c3, b2 _ _ (by omega) (by omega), x1 x j c3 (by unfold mX at hx; omega) (by omega)]
      · exact back _ 2 (-1) (fun x j h => by
          show (if j = 0 ∧ x = 171 then (2 : Int) else if j = 14 ∧ x = 171 then -1 else g1 x j) = g1 x j
          rw [if_neg (fun w => h ⟨w.2, Or.inl w.1⟩), if_neg (fun w => h ⟨w.2, Or.inr w.1⟩)]) upd2_eq (by rw [upd2_nj (by decide), upd2_eq]) (ku z (by omega)) y
    · rw [show wr (-1) = -1 by decide +kernel]
      refine ⟨fun c => absurd c (by decide), fun _ => ⟨fun c => absurd c (by decide), fun _ => ?_⟩⟩
      exact back _ 1 (g1 171 12) (fun x j h => by
          show (if j = 0 ∧ x = 171 then (1 : Int) else if j = 14 ∧ x = 171 then g1 171 12 else g1 x j) = g1 x j
          rw [if_neg (fun w => h ⟨w.2, Or.inl w.1⟩), if_neg (fun w => h ⟨w.2, Or.inr w.1⟩)]) upd2_eq (by rw [upd2_nj (by decide), upd2_eq]) (fun g' h1 h2 h3 h4 h5 => kf z g' h1 h2 h3 h4 (by rw [h5, e1])) (-1)
  · apply wpX12_hills_2
    rw [wr_id (x := (i : Int)) (by omega) (by omega), o 172 _ (by decide), hv]
    refine ⟨fun c => absurd c (by omega), fun _ => ⟨by omega, by omega, hi _ (fun x j hx => by rw [upd2_ne hx]; exact o x j hx) (fun j j0 j1 => ?_)⟩⟩
    by_cases c : j = i
    · rw [c, upd2_eq]
    · rw [upd2_nj c]; exact f j j0 (by omega)
/-- fault: both sides -/
theorem k_fault (h : CRel g m) (kk : K (.inl (vI (m 171 14))) (stt g)) : Ct Γ l d b yX11_fault mX11_fault [vR 1] (stt g) K := by
  apply wpX11_fault
  rw [h.2.2.2.2]
  exact kk
theorem m_fault (kk : ∀ g', (∀ x j, ¬ (x = 171 ∧ j = 0) → g' x j = g x j) → K (.inl (vI (g 171 14))) (stt g')) : Ct Γ l d b yX12_fault mX12_fault [vR 171] (stt g) K := by
  apply wpX12_fault
  rw [upd2_nj (by decide)]
  exact kk _ (fun x j hn => if_neg (fun z => hn ⟨z.2, z.1⟩))
end MK
