/-! ACTS AND HOURS: the reference's side -/
def onlyM (g g' : GG) : Prop := ∀ a j, a ≠ 172 → ¬ rW a j → ¬ (a = 171 ∧ j = 24) → g' a j = g a j
theorem onlyM.rf {g : GG} : onlyM g g := fun _ _ _ _ _ => rfl
theorem onlyM.tr {g g1 g2 : GG} (h : onlyM g g1) (h2 : onlyM g1 g2) : onlyM g g2 := fun a j h9 hs hj => by rw [h2 a j h9 hs hj, h a j h9 hs hj]
theorem onlyR.m {g g' : GG} (h : onlyR g g') : onlyM g g' := fun a j _ hs _ => h a j hs
theorem inO.m {g g' : GG} (h : inO g) (e : onlyM g g') : inO g' := fun k k0 k1 => by rw [e _ _ (by decide) (by unfold rW; omega) (by omega), h k k0 k1]
theorem upd_v (g : GG) (i v : Int) : (upd2 g 172 i v) 172 = upV (g 172) i v := funext fun j => by
  unfold upd2 upV
  by_cases e : j = i
  · rw [if_pos ⟨e, rfl⟩, if_pos e]
  · rw [if_neg (fun z => e z.1), if_neg e]
theorem upd_m (g : GG) (i v : Int) : onlyM g (upd2 g 172 i v) := fun a j h9 _ _ => upd2_ne h9
section MA
variable {Γ : Cfg} {l : Launch} {d b : Nat} {g : GG} {K : Ou → HP → Prop} {V : VV} {p : Int}
theorem m_allIn {s : Int} (hv : g 172 = V) (hV : WF V) (s0 : 0 ≤ s) (s1 : s ≤ 2) (kk : K (.inl (vI (btS V s))) (stt g)) : Ct Γ l (d + 2) b yX12_allIn mX12_allIn [vR 171, vI s] (stt g) K := by
  have h6 := hV.1.1
  apply wpX12_allIn
  refine up_loop (P := fun n => AW Γ l mX12_allIn (d + 2) b 4 [vR 171, vI s, vI (fd (fun b p => if zS V p = s then iOr b (iShl 1 p) else b) 0 n), vI n] [] (stt g) K) (N := (V 0).toNat) ?_ (fun n hn hi => ?_) 0 (Nat.zero_le _)
  · apply wpX12_allIn_4
    rw [hv, wr_id (x := V 0) (by omega) (by omega), wr_id (x := ((V 0).toNat : Int)) (by omega) (by omega)]
    exact ⟨fun _ => kk, fun hc => absurd (show V 0 ≤ ((V 0).toNat : Int) by omega) hc⟩
  · have hp := hV.pn (p := n) (by omega) (by omega)
    have e := ofP_at hv (p := n) (w := 3) (by omega) (by omega)
    have e1 : V (12 + 29 * (n : Int) + 3) = zS V n := rfl
    have hw : wr (fd (fun b p => if zS V p = s then iOr b (iShl 1 p) else b) 0 n) = fd (fun b p => if zS V p = s then iOr b (iShl 1 p) else b) 0 n := fd_ind (P := fun _ x => wr x = x) wr_0 (fun n x hx => by
      by_cases q : zS V n = s
      · simp only [if_pos q, wr_iOr]
      · simp only [if_neg q, hx]) _
    have hi2 : AW Γ l mX12_allIn (d + 2) b 4 [vR 171, vI s, vI (if zS V n = s then iOr (fd (fun b p => if zS V p = s then iOr b (iShl 1 p) else b) 0 n) (iShl 1 n) else fd (fun b p => if zS V p = s then iOr b (iShl 1 p) else b) 0 n), vI ((n : Int) + 1)] [] (stt g) K := hi
    apply wpX12_allIn_4
    rw [hv, e.1, e1, wr_id (x := V 0) (by omega) (by omega), wr_id (x := (n : Int)) (by omega) (by omega), wr_id (x := zS V n) (by omega) (by omega), wr_id (x := s) (by omega) (by omega), iOr_0 hw]
    refine ⟨fun hc => absurd hc (by omega), fun _ => ⟨e.2, fun hc => ?_, fun hc => ?_⟩⟩
    · rw [if_neg hc] at hi2
      exact hi2
    · rw [if_pos (by omega)] at hi2
      exact hi2
theorem m_isTold {w m x : Int} (hv : g 172 = V) (hV : WF V) (kk : ∀ g', g' 172 = zNote V p w m x → (∀ a j, a ≠ 172 → g' a j = g a j) → K (.inl vU) (stt g')) : Ct Γ l d b yX12_isTold mX12_isTold [vR 171, vI p, vI w, vI m, vI x] (stt g) K := by
  have h6 := hV.1
  apply wpX12_isTold
  refine up_loop (P := fun n => ∀ g', (∀ j, g' 172 j = if 485 - (n : Int) < j ∧ j < 486 then V (j - 5) else V j) → (∀ a j, a ≠ 172 → g' a j = g a j) → AW Γ l mX12_isTold d b 5 [vR 171, vI p, vI w, vI m, vI x, vI (299 - (n : Int))] [] (stt g') K) (N := 295) (fun g' h1 h2 => ?_) (fun n hn hi g' h1 h2 => ?_) 0 (Nat.zero_le _) g (fun j => ?_) (fun _ _ _ => rfl)
  · apply wpX12_isTold_5
    rw [wr_id (x := 299 - ((295 : Nat) : Int)) (by decide) (by decide)]
    refine ⟨fun _ g1 e1 g2 e2 g3 e3 => ?_, fun q => absurd (show 299 - ((295 : Nat) : Int) < 5 by decide) q⟩
    have n4 : g' 172 4 = V 4 := by rw [h1, if_neg (by omega)]
    have n6 : g2 172 6 = V 6 := by rw [e2, upd2_nj (by decide), upd2_nj (by decide), e1, upd2_nj (by decide), upd2_nj (by decide), h1, if_neg (by omega)]
    rw [n4] at e1
    rw [upd2_nj (by decide), n6, iMin_id (by omega) (by omega) (by omega) (by omega)] at e3
    refine kk g3 (funext fun j => ?_) (fun a j ha => by rw [e3, upd2_ne ha, upd2_ne ha, e2, upd2_ne ha, upd2_ne ha, e1, upd2_ne ha, upd2_ne ha, h2 a j ha])
    by_cases q6 : j = 6
    · subst q6
      rw [e3, upd2_eq]
      show (if V 6 + 1 < 60 then V 6 + 1 else 60) = (if V 6 < 60 then V 6 + 1 else 60)
      omega
    unfold zNote
    rw [e3, upd2_nj q6]
    by_cases q0 : j = 186
    · rw [if_pos q0, q0, upd2_nj (by decide), e2, upd2_nj (by decide), upd2_nj (by decide), e1, upd2_nj (by decide), upd2_eq]
    rw [if_neg q0]
    by_cases q1 : j = 187
    · rw [if_pos q1, q1, upd2_nj (by decide), e2, upd2_nj (by decide), upd2_nj (by decide), e1, upd2_eq]
    rw [if_neg q1]
    by_cases q2 : j = 188
    · rw [if_pos q2, q2, upd2_nj (by decide), e2, upd2_nj (by decide), upd2_eq]
    rw [if_neg q2]
    by_cases q3 : j = 189
    · rw [if_pos q3, q3, upd2_nj (by decide), e2, upd2_eq]
    rw [if_neg q3]
    by_cases q4 : j = 190
    · rw [if_pos q4, q4, upd2_eq]
    rw [if_neg q4, upd2_nj q4, e2, upd2_nj q3, upd2_nj q2, e1, upd2_nj q1, upd2_nj q0, h1, if_neg (c := j = 6) q6]
    by_cases q5 : 191 ≤ j ∧ j < 486
    · rw [if_pos q5, if_pos (by omega)]
    · rw [if_neg q5, if_neg (by omega)]
  · apply wpX12_isTold_5
    rw [wr_id (x := 299 - (n : Int)) (by omega) (by omega), wr_id (x := 186 + (299 - (n : Int)) - 5) (by omega) (by omega), wr_id (x := 186 + (299 - (n : Int))) (by omega) (by omega)]
    refine ⟨fun q => absurd q (by omega), fun _ => ⟨by omega, by omega, fun g4 e4 => ?_⟩⟩
    have := hi g4 (fun j => ?_) (fun a j ha => by rw [e4, upd2_ne ha, h2 a j ha])
    · rw [show 299 - ((n + 1 : Nat) : Int) = 299 - (n : Int) + (-1) by omega] at this
      exact this
    · rw [e4]
      by_cases q : j = 186 + (299 - (n : Int))
      · subst q
        rw [upd2_eq, h1, if_neg (by omega), if_pos (by omega)]
      · rw [upd2_nj q, h1]
        by_cases q2 : 485 - (n : Int) < j ∧ j < 486
        · rw [if_pos q2, if_pos (by omega)]
        · rw [if_neg q2, if_neg (by omega)]
  · rw [hv, if_neg (by omega)]
theorem m_isHeld {many how : Int} (hv : g 172 = V) (hV : WF V) (hW : okLaw V) (ho : inO g) (p0 : 0 ≤ p) (p1 : p < 6) (m0 : 0 ≤ many) (m1 : many ≤ zL V p)
    (kk : ∀ g', g' 172 = heldT V p many how → g' 171 24 = heardS (heldT V p many how) p → RS g' p many (rdV (setS V p 2 many) p many) → onlyM g g' → K (.inl vU) (stt g')) : Ct Γ l (d + 7) b yX12_isHeld mX12_isHeld [vR 171, vI p, vI many, vI how] (stt g) K := by
  have hp := hV.pn p0 p1
  apply wpX12_isHeld
  rw [wr_id (x := 12 + 29 * p + 3) (by omega) (by omega), wr_id (x := 12 + 29 * p + 4) (by omega) (by omega)]
  refine ⟨by omega, fun g1 e1 => ⟨by omega, fun g2 e2 => ?_⟩⟩
  have v2 : g2 172 = setS V p 2 many := by rw [e2, upd_v, e1, upd_v, hv]; rfl
  have o2 : onlyM g g2 := by rw [e2, e1]; exact (upd_m _ _ _).tr (upd_m _ _ _)
  have w2 : WF (setS V p 2 many) := hV.set p0 p1 (by decide) (by decide) m0 m1
  have W2 : okLaw (setS V p 2 many) := hW.cg (setS_ne (by omega) (by omega)) (fun j hj => setS_ne (by omega) (by omega))
  have zl : zL (setS V p 2 many) p = zL V p := setS_ne (by omega) (by omega)
  have m1' : many ≤ zL (setS V p 2 many) p := by rw [zl]; exact m1
  refine m_weightAt v2 w2 W2 (ho.m o2) p0 p1 m0 m1' fun g3 r3 o3 => bI_in ?_
  refine m_hears r3 (o3.v.trans v2) w2 W2 (w2.okR p0 p1 m0 m1') p0 p1 m0 (by omega) fun g4 o4 r4 => bI_in ?_
  have v4 : (upd2 g4 171 24 (hrS (setS V p 2 many) (fcS p (rdV (setS V p 2 many) p many) many (whB (setS V p 2 many) p many)))) 172 = setS V p 2 many := by
    rw [← v2, ← o3.v, ← o4.v]
    exact funext fun j => upd2_ne (by decide)
  refine m_isTold v4 w2 fun g5 h5 o5 => bV_in (kk g5 h5 ?_ ⟨fun f f0 f1 => ?_, ?_, ?_⟩ ?_)
  · rw [o5 _ _ (by decide), upd2_eq]
    unfold heardS
    rw [(heldT_s p0 p1).2]
    exact (rd_cg w2 W2 (zNote_same (w := how) (m := many) (x := wV (setS V p 2 many) (setS V p 2 many) p many) (p := p) p p0 p1) p0 p1 m0 m1').2.2.symm
  · rw [o5 _ _ (by decide), upd2_ne (by decide)]; exact r4.1 f f0 f1
  · rw [o5 _ _ (by decide), upd2_nj (by decide)]; exact r4.2.1
  · rw [o5 _ _ (by decide), upd2_nj (by decide)]; exact r4.2.2
  · intro a j h9 hs hj
    rw [o5 _ _ h9]
    by_cases e : a = 171
    · rw [upd2_nj (fun z => hj ⟨e, z⟩), o4 _ _ hs, o3 _ _ hs, o2 _ _ h9 hs hj]
    · rw [upd2_ne e, o4 _ _ hs, o3 _ _ hs, o2 _ _ h9 hs hj]
theorem m_isBroken {kind : Int} (hv : g 172 = V) (hV : WF V) (hW : okLaw V) (ho : inO g) (p0 : 0 ≤ p) (p1 : p < 6) (k0 : 0 ≤ kind) (k1 : kind ≤ 4)
    (kk : ∀ g', g' 172 = brkV V p kind → (kind ≠ 1 → g' 171 24 = heardS (brkV V p kind) p) → onlyM g g' → K (.inl (vI (brkR V p kind))) (stt g')) : Ct Γ l (d + 9) b yX12_isBroken mX12_isBroken [vR 171, vI p, vI kind] (stt g) K := by
  have hp := hV.pn p0 p1
  have hm := manyS_rng hV p0 p1 kind
  have e4 := ofP_at hv (p := p) (w := 4) (by omega) (by omega)
  have e4' : V (12 + 29 * p + 4) = zC V p := rfl
  apply wpX12_isBroken
  rw [e4.1, e4']
  refine ⟨e4.2, m_allIn hv hV (by decide) (by decide) (bI_in ?_)⟩
  have fin : ∀ s0, (s0 = 0 ∨ s0 = 1) → (s0 = 0 ↔ iAnd (btS V 1) (iXor (iShl 1 p) (-1)) = 0) → AW Γ l mX12_isBroken (d + 9) b 26 [vR 171, vI p, vI kind, vI (zC V p), vU, vU] [vI s0] (stt g) K := by
    intro s0 h01 hs
    have mm : ∀ m, m = manyS V p kind → kind ≠ 1 → Ct Γ l (d + 8) 0 yX12_isHeld mX12_isHeld [vR 171, vI p, vI m, vI kind] (stt g) (bV (fun g1 => K (.inl (vI m)) (stt g1)) K) := by
      intro m em q
      subst em
      unfold brkV brkR at kk
      simp only [if_neg q] at kk
      exact m_isHeld hv hV hW ho p0 p1 hm.1 hm.2 fun g' h1 h2 _ h3 => bV_in (kk g' h1 (fun _ => h2) h3)
    apply wpX12_isBroken_26
    rw [wr_id (x := kind) (by omega) (by omega), iMax_id (x := 0) (by omega) (by omega) (by omega) (by omega), iMax_id (x := 0) (by omega) (by omega) (by omega) (by omega), wr_id (x := s0) (by omega) (by omega)]
    unfold manyS at mm
    refine ⟨fun q1 => ⟨fun q2 => ⟨fun q3 => ⟨fun q4 => mm _ ?_ q1, fun q4 => ⟨fun q5 => mm _ ?_ q1, fun q5 => mm _ ?_ q1⟩⟩, fun q3 => mm _ ?_ q1⟩, fun q2 => mm _ ?_ q1⟩, fun q1 => ?_⟩
    · rw [if_neg q2, if_neg q3, if_neg (fun z => q4 z.1)]
    · rw [if_neg q2, if_neg q3, if_neg (fun z => z.2 (hs.mp q5))]
    · rw [if_neg q2, if_neg q3, if_pos ⟨by omega, fun z => q5 (hs.mpr z)⟩]
    · rw [if_neg q2, if_pos (show kind = 3 by omega)]
    · rw [if_pos (show kind = 2 by omega)]
    · have q : kind = 1 := by omega
      unfold brkV brkR at kk
      simp only [if_pos q] at kk
      refine m_weightAt hv hV hW ho p0 p1 hp.2.2.2.2.1.1 hp.2.2.2.2.1.2 fun g2 r2 o2 => bI_in ?_
      exact m_isTold (o2.v.trans hv) hV fun g3 h3 o3 => bV_in (kk g3 h3 (fun z => absurd q z) (o2.m.tr fun a j h9 _ _ => o3 a j h9))
  rw [wr_iAnd]
  exact ⟨fun z => fin 0 (Or.inl rfl) ⟨fun _ => z, fun _ => rfl⟩, fun z => fin 1 (Or.inr rfl) ⟨fun w => absurd w (by decide), fun w => absurd w z⟩⟩
end MA
