/-! WHAT IS ASKED of people: the reference's side -/
def onlyO (g g' : GG) : Prop := ∀ a j, ¬ rW a j → a ≠ 180 → g' a j = g a j
theorem onlyO.rf {g : GG} : onlyO g g := fun _ _ _ _ => rfl
theorem onlyO.tr {g g1 g2 : GG} (h : onlyO g g1) (h2 : onlyO g1 g2) : onlyO g g2 := fun a j hs ha => by rw [h2 a j hs ha, h a j hs ha]
theorem onlyR.o {g g' : GG} (h : onlyR g g') : onlyO g g' := fun a j hs _ => h a j hs
theorem onlyO.v {g g' : GG} (h : onlyO g g') : g' 172 = g 172 := funext fun j => h _ _ (by unfold rW; omega) (by decide)
def wP (V : VV) (p : Int) (f : Int → Int × Int) (n : Int) : Int := wgS V (rdC f n.toNat (fun i => V (8 + i))) (fcS p (rdC f n.toNat (fun i => V (8 + i))) n (whB V p n))
theorem wP_V (V : VV) (p n : Int) : wP V p (zW V p) n = wV V V p n := rfl
/-- the least of all beginnings' weights -/
def svP (V : VV) (p : Int) (f : Int → Int × Int) (n : Nat) : Int := fd (fun x i => iMin x (wP V p f (i + 1))) 1000000 n
section MQ
variable {Γ : Cfg} {l : Launch} {d b : Nat} {g : GG} {K : Ou → HP → Prop} {V : VV} {p : Int}
theorem ofP_all (hv : g 172 = V) (p0 : 0 ≤ p) (p1 : p < 6) : (ofP g p 0 = zL V p ∧ okP p 0) ∧ (ofP g p 1 = zB V p ∧ okP p 1) ∧ (ofP g p 2 = zG V p ∧ okP p 2) ∧ (ofP g p 3 = zS V p ∧ okP p 3) ∧ (ofP g p 4 = zC V p ∧ okP p 4) :=
  ⟨ofP_at hv (by omega) (by omega), ofP_at hv (by omega) (by omega), ofP_at hv (by omega) (by omega), ofP_at hv (by omega) (by omega), ofP_at hv (by omega) (by omega)⟩
theorem ofP_word (hv : g 172 = V) (p0 : 0 ≤ p) (p1 : p < 6) {k : Int} (k0 : 0 ≤ k) (k1 : k < 12) : (ofP g p (5 + 2 * k) = zK V p k ∧ okP p (5 + 2 * k)) ∧ (ofP g p (5 + 2 * k + 1) = zN V p k ∧ okP p (5 + 2 * k + 1)) :=
  ⟨ofP_at hv (by omega) (by omega), ofP_at hv (by omega) (by omega)⟩
theorem m_wAtP {n : Int} {pl : Int → Int} {f : Int → Int × Int} (hv : g 172 = V) (hV : WF V) (hW : okLaw V) (p0 : 0 ≤ p) (p1 : p < 6) (n0 : 0 ≤ n) (n1 : n ≤ 12) (hp : ∀ k : Nat, (k : Int) < n → (0 ≤ pl k ∧ pl k < 12) ∧ g 180 k = pl k ∧ f k = zW V p (pl k)) (hn : okN f n.toNat)
    (kk : ∀ g', onlyR g g' → K (.inl (vI (wP V p f n))) (stt g')) : Ct Γ l (d + 6) b yX12_weightAt mX12_weightAt [vR 171, vI p, vI n] (stt g) K := by
  obtain ⟨m, rfl⟩ : ∃ m : Nat, n = m := ⟨n.toNat, by omega⟩
  rw [Int.toNat_natCast] at hn
  have hw : okW f m := fun k hk => by
    have h1 := hp k (by omega)
    rw [h1.2.2]
    exact hV.kn p0 p1 h1.1.1 h1.1.2
  unfold wP at kk
  rw [Int.toNat_natCast] at kk
  apply wpX12_weightAt
  exact m_reads hv hV p0 p1 (by omega) (fun k hk => hp k (by omega)) hn fun g1 h1 o1 => bV_in (m_weighs h1 (o1.v.trans hv) hV hW (okC_rd hw hn _) p0 p1 n0 (by omega) fun g2 o2 h2 => bI_in (kk g2 (o1.tr o2)))
theorem m_sureP {pl : Int → Int} {f : Int → Int × Int} (hv : g 172 = V) (hV : WF V) (hW : okLaw V) (p0 : 0 ≤ p) (p1 : p < 6) (hp : ∀ k : Nat, (k : Int) < zL V p → (0 ≤ pl k ∧ pl k < 12) ∧ g 180 k = pl k ∧ f k = zW V p (pl k)) (hn : okN f (zL V p).toNat)
    (kk : ∀ g', onlyR g g' → K (.inl (vI (svP V p f (zL V p).toNat))) (stt g')) : Ct Γ l (d + 8) b yX12_sureOf mX12_sureOf [vR 171, vI p] (stt g) K := by
  have hq := hV.pn p0 p1
  apply wpX12_sureOf
  refine up_loop (P := fun n => ∀ g', onlyR g g' → AW Γ l mX12_sureOf (d + 8) b 5 [vR 171, vI p, vI (svP V p f n), vI ((n : Int) + 1)] [] (stt g') K) (N := (zL V p).toNat) (fun g' o' => ?_) (fun n hn9 hi g' o' => ?_) 0 (Nat.zero_le _) g onlyR.rf
  · obtain ⟨a0, -⟩ := ofP_all (o'.v.trans hv) p0 p1
    apply wpX12_sureOf_5
    rw [a0.1, wr_id (x := zL V p) (by omega) (by omega), wr_id (x := ((zL V p).toNat : Int) + 1) (by omega) (by omega)]
    exact ⟨a0.2, fun _ => kk g' o', fun z => absurd (show zL V p < ((zL V p).toNat : Int) + 1 by omega) z⟩
  · obtain ⟨a0, -⟩ := ofP_all (o'.v.trans hv) p0 p1
    have hi2 : ∀ g', onlyR g g' → AW Γ l mX12_sureOf (d + 8) b 5 [vR 171, vI p, vI (iMin (svP V p f n) (wP V p f (n + 1))), vI (((n + 1 : Nat) : Int) + 1)] [] (stt g') K := hi
    rw [show ((n + 1 : Nat) : Int) + 1 = (n : Int) + 1 + 1 by omega] at hi2
    apply wpX12_sureOf_5
    rw [a0.1, wr_id (x := zL V p) (by omega) (by omega), wr_id (x := (n : Int) + 1) (by omega) (by omega)]
    refine ⟨a0.2, fun z => absurd z (by omega), fun _ => m_wAtP (pl := pl) (f := f) (o'.v.trans hv) hV hW p0 p1 (by omega) (by omega) (fun k hk => ?_) (fun k hk => hn k (by omega)) fun g2 o2 => bI_in (hi2 g2 (o'.tr o2))⟩
    have h1 := hp k (by omega)
    exact ⟨h1.1, by rw [o' _ _ (by unfold rW; omega)]; exact h1.2.1, h1.2.2⟩
theorem m_sureOf (hv : g 172 = V) (hV : WF V) (hW : okLaw V) (ho : inO g) (p0 : 0 ≤ p) (p1 : p < 6) (kk : ∀ g', onlyR g g' → K (.inl (vI (svP V p (zW V p) (zL V p).toNat))) (stt g')) : Ct Γ l (d + 8) b yX12_sureOf mX12_sureOf [vR 171, vI p] (stt g) K := by
  have hq := hV.pn p0 p1
  exact m_sureP (pl := fun k => k) hv hV hW p0 p1 (fun k hk => ⟨⟨by omega, by omega⟩, ho k (by omega) (by omega), rfl⟩) (hV.okN p0 p1 (by omega)) kk
theorem m_wordAt {most : Int} (hv : g 172 = V) (hV : WF V) (hW : okLaw V) (p0 : 0 ≤ p) (p1 : p < V 0) (hm : most = 0 ∨ most = 1) (kk : ∀ g', onlyO g g' → K (.inl (vI (if most = 0 then wstS V V p else bstS V V p))) (stt g')) : Ct Γ l (d + 8) b yX12_wordAt mX12_wordAt [vR 171, vI p, vI most] (stt g) K := by
  have h6 := hV.1.1
  have hq := hV.pn p0 (show p < 6 by omega)
  have hl := (hq.2.2.2.2.2 p1).1
  apply wpX12_wordAt
  refine m_inOrder fun g1 i1 o1 => bV_in ?_
  have v1 : g1 172 = V := by rw [← hv]; exact funext fun j => o1 _ _ (by decide)
  have oO : onlyO g g1 := fun a j _ ha => o1 a j ha
  have hst : ∀ n : Nat, 1 ≤ (if most = 0 then fd (fun b i => if wV V V p (i + 2) < wV V V p b then i + 2 else b) 1 n else fd (fun b i => if wV V V p b < wV V V p (i + 2) then i + 2 else b) 1 n) ∧ (if most = 0 then fd (fun b i => if wV V V p (i + 2) < wV V V p b then i + 2 else b) 1 n else fd (fun b i => if wV V V p b < wV V V p (i + 2) then i + 2 else b) 1 n) ≤ n + 1 := fun n => by
    have a := wst_rng V V p n
    have b := bst_rng V V p n
    by_cases z : most = 0
    · rw [if_pos z]; exact a
    · rw [if_neg z]; exact b
  have z : ∀ g', onlyR g1 g' → AW Γ l mX12_wordAt (d + 8) b 9 [vR 171, vI p, vI most, vI (if most = 0 then (1 : Int) else 1), vI (((0 : Nat) : Int) + 2), vU] [] (stt g') K := by
    refine up_loop (P := fun n => ∀ g', onlyR g1 g' → AW Γ l mX12_wordAt (d + 8) b 9 [vR 171, vI p, vI most, vI (if most = 0 then fd (fun b i => if wV V V p (i + 2) < wV V V p b then i + 2 else b) 1 n else fd (fun b i => if wV V V p b < wV V V p (i + 2) then i + 2 else b) 1 n), vI ((n : Int) + 2), vU] [] (stt g') K) (N := (zL V p - 1).toNat) (fun g' o' => ?_) (fun n hn9 hi g' o' => ?_) 0 (Nat.zero_le _)
    · obtain ⟨a0, -⟩ := ofP_all (o'.v.trans v1) p0 (show p < 6 by omega)
      apply wpX12_wordAt_9
      rw [a0.1, wr_id (x := zL V p) (by omega) (by omega), wr_id (x := ((zL V p - 1).toNat : Int) + 2) (by omega) (by omega)]
      exact ⟨a0.2, fun _ => kk g' (oO.tr o'.o), fun z => absurd (show zL V p < ((zL V p - 1).toNat : Int) + 2 by omega) z⟩
    · obtain ⟨a0, -⟩ := ofP_all (o'.v.trans v1) p0 (show p < 6 by omega)
      have hr := hst n
      have hi2 : ∀ g', onlyR g1 g' → AW Γ l mX12_wordAt (d + 8) b 9 [vR 171, vI p, vI most, vI (if most = 0 then (if wV V V p (n + 2) < wV V V p (fd (fun b i => if wV V V p (i + 2) < wV V V p b then i + 2 else b) 1 n) then n + 2 else fd (fun b i => if wV V V p (i + 2) < wV V V p b then i + 2 else b) 1 n) else (if wV V V p (fd (fun b i => if wV V V p b < wV V V p (i + 2) then i + 2 else b) 1 n) < wV V V p (n + 2) then n + 2 else fd (fun b i => if wV V V p b < wV V V p (i + 2) then i + 2 else b) 1 n)), vI (((n + 1 : Nat) : Int) + 2), vU] [] (stt g') K := hi
      rw [show ((n + 1 : Nat) : Int) + 2 = (n : Int) + 2 + 1 by omega] at hi2
      generalize fd (fun b i => if wV V V p (i + 2) < wV V V p b then i + 2 else b) 1 n = x at hr hi2 ⊢
      generalize fd (fun b i => if wV V V p b < wV V V p (i + 2) then i + 2 else b) 1 n = y at hr hi2 ⊢
      have iO := i1
      apply wpX12_wordAt_9
      rw [a0.1, wr_id (x := zL V p) (by omega) (by omega), wr_id (x := (n : Int) + 2) (by omega) (by omega)]
      refine ⟨a0.2, fun z => absurd z (by omega), fun _ => m_weightAt (o'.v.trans v1) hV hW (inO.r i1 o') p0 (by omega) (by omega) (by omega) fun g2 _ o2 => bI_in ?_⟩
      have o12 := o'.tr o2
      refine m_weightAt (o12.v.trans v1) hV hW (inO.r i1 o12) p0 (by omega) (by omega) (by omega) fun g3 _ o3 => bI_in ?_
      have w2 := wV_rng hV hW p0 (show p < 6 by omega) (n := (n : Int) + 2) (by omega) (by omega)
      rcases hm with rfl | rfl
      · rw [if_pos rfl] at hr
        simp only [if_true] at hi2 ⊢
        have w1 := wV_rng hV hW p0 (show p < 6 by omega) (n := x) (by omega) (by omega)
        rw [wr_id (x := wV V V p (n + 2) - wV V V p x) (by omega) (by omega)]
        refine ⟨fun _ => ⟨fun q => ?_, fun q => ?_⟩, fun q => absurd wr_0 q⟩
        · rw [if_neg (by omega)] at hi2
          exact AW.weak (hi2 g3 (o12.tr o3)) (by simp [leP])
        · rw [if_pos (by omega)] at hi2
          exact AW.weak (hi2 g3 (o12.tr o3)) (by simp [leP])
      · rw [if_neg (by decide)] at hr
        simp only [show ¬ ((1 : Int) = 0) by decide, if_false] at hi2 ⊢
        have w1 := wV_rng hV hW p0 (show p < 6 by omega) (n := y) (by omega) (by omega)
        rw [wr_id (x := wV V V p (n + 2) - wV V V p y) (by omega) (by omega)]
        refine ⟨fun q => absurd q (by decide +kernel), fun _ => ⟨fun q => ?_, fun q => ?_⟩⟩
        · rw [if_neg (by omega)] at hi2
          exact AW.weak (hi2 g3 (o12.tr o3)) (by simp [leP])
        · rw [if_pos (by omega)] at hi2
          exact AW.weak (hi2 g3 (o12.tr o3)) (by simp [leP])
  have e1 : (if most = 0 then (1 : Int) else 1) = 1 := by omega
  rw [e1] at z
  exact z g1 onlyR.rf
end MQ
