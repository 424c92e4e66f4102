/-! THE HILLS: what each method of theirs comes to -/
def kdAt (V : VV) (p k : Int) : Int := if k < zL V p then zK V p k else 10
def hcS (V : VV) (p : Int) : Int := if zS V p = 2 then zC V p else 0
def btS (V : VV) (s : Int) : Int := fd (fun b p => if zS V p = s then iOr b (iShl 1 p) else b) 0 (V 0).toNat
def needS (V : VV) (p : Int) : Int := (zL V p + zB V p - 1) / zB V p
def chS (V : VV) (gd : Int) : Int := if 0 < V 3 - 10 * gd then V 3 - 10 * gd else 0
def obS (V : VV) (odds gd : Int) : Int := odds * (100 - chS V gd) / 100
def mnL (V : VV) (p q : Int) : Int := if zL V q < zL V p then zL V q else zL V p
def aaS (V : VV) (p q : Int) : Int := fd (fun c k => if zW V p k = zW V q k then c + 1 else c) 0 (mnL V p q).toNat
/-- how many first words are alike -/
def AF (V : VV) (p q r : Int) : Prop := 0 ≤ r ∧ r ≤ mnL V p q ∧ (∀ k, 0 ≤ k → k < r → zW V p k = zW V q k) ∧ (r < mnL V p q → zW V p r ≠ zW V q r)
def sdS (V : VV) : Int := 1103515245 * V 7 + 12345
def drS (V : VV) : Int := iAnd (iUsh (sdS V) 16) 32767
def setS (V : VV) (p s c : Int) : VV := upV (upV V (12 + 29 * p + 3) s) (12 + 29 * p + 4) c
def cpW (V : VV) (p q : Int) (n : Int) : VV := fun j => if 12 + 29 * p + 5 ≤ j ∧ j < 12 + 29 * p + 5 + 2 * n then V (j - 29 * p + 29 * q) else V j
def cpO (V : VV) (p q : Int) : VV := upV (cpW V p q 12) (12 + 29 * p + 0) (zL V q)
def onlyH (g g' : GG) (t : Int) : Prop := ∀ a j, (a < t ∨ t + 8 < a) → g' a j = g a j
section HC
variable {Γ : Cfg} {l : Launch} {d b : Nat} {g : GG} {K : Ou → HP → Prop} {t p q k : Int} {V : VV}
theorem WF.po (hV : WF V) (p0 : 0 ≤ p) (p1 : p < 6) : PO V p := hV.2.2 p p0 p1
theorem WF.pn (hV : WF V) (p0 : 0 ≤ p) (p1 : p < 6) : (0 ≤ zL V p ∧ zL V p ≤ 12) ∧ (0 ≤ zB V p ∧ zB V p ≤ 9) ∧ (0 ≤ zG V p ∧ zG V p ≤ 9) ∧ (0 ≤ zS V p ∧ zS V p ≤ 2) ∧ (0 ≤ zC V p ∧ zC V p ≤ zL V p) ∧ (p < V 0 → 1 ≤ zL V p ∧ 1 ≤ zB V p) := (hV.po p0 p1).1
theorem WF.kn (hV : WF V) (p0 : 0 ≤ p) (p1 : p < 6) (k0 : 0 ≤ k) (k1 : k < 12) : (0 ≤ zK V p k ∧ zK V p k ≤ 9) ∧ (0 ≤ zN V p k ∧ zN V p k ≤ 9) := (hV.po p0 p1).2.1 k k0 k1
theorem zW_eq (hV : WF V) (p0 : 0 ≤ p) (p1 : p < 6) (q0 : 0 ≤ q) (q1 : q < 6) (k0 : 0 ≤ k) (k1 : k < 12) : (10 * zK V p k + zN V p k = 10 * zK V q k + zN V q k) ↔ zW V p k = zW V q k := by
  have h1 := hV.kn p0 p1 k0 k1
  have h2 := hV.kn q0 q1 k0 k1
  unfold zW
  rw [Prod.mk.injEq]
  omega
theorem k_kindAt (h : HRel g t V) (hV : WF V) (p0 : 0 ≤ p) (p1 : p < 6) (k0 : 0 ≤ k) (k1 : k < 12) (kk : K (.inl (vI (kdAt V p k))) (stt g)) : Ct Γ l (d + 2) b yX2_kindAt mX2_kindAt [vR t, vI p, vI k] (stt g) K := by
  have hp := hV.pn p0 p1
  have hk := hV.kn p0 p1 k0 k1
  apply wpX2_kindAt h.hi
  rw [h.cL p0 p1, h.cW p0 p1 k0 k1, wr_id (x := zL V p) (by omega) (by omega), wr_id (x := k) (by omega) (by omega), iDiv_nn (by omega) (by omega) (by decide) (by decide)]
  unfold kdAt at kk
  refine ⟨fun hc => ?_, fun hc => ?_⟩
  · rw [if_neg (by omega)] at kk
    exact kk
  · rw [if_pos (by omega)] at kk
    rw [show (10 * zK V p k + zN V p k) / 10 = zK V p k by omega]
    exact kk
theorem k_heldCount (h : HRel g t V) (hV : WF V) (p0 : 0 ≤ p) (p1 : p < 6) (kk : K (.inl (vI (hcS V p))) (stt g)) : Ct Γ l (d + 1) b yX2_heldCount mX2_heldCount [vR t, vI p] (stt g) K := by
  have hp := hV.pn p0 p1
  apply wpX2_heldCount h.hi
  rw [h.cS p0 p1, h.cC p0 p1, wr_id (x := zS V p) (by omega) (by omega)]
  unfold hcS at kk
  refine ⟨fun hc => ?_, fun hc => ?_⟩
  · rw [if_neg hc] at kk
    exact kk
  · rw [if_pos (by omega)] at kk
    exact kk
theorem k_hoursNeed (h : HRel g t V) (hV : WF V) (p0 : 0 ≤ p) (p1 : p < V 0) (kk : K (.inl (vI (needS V p))) (stt g)) : Ct Γ l (d + 1) b yX2_hoursNeed mX2_hoursNeed [vR t, vI p] (stt g) K := by
  have h6 := hV.1.1
  have hp := hV.pn p0 (by omega)
  have hb := hp.2.2.2.2.2 p1
  apply wpX2_hoursNeed h.hi
  have e : iMax 1 (zB V p) = zB V p := by
    rw [iMax_id (by omega) (by omega) (by omega) (by omega)]
    omega
  rw [h.cL p0 (by omega), h.cB p0 (by omega), e, wr_id (x := zB V p) (by omega) (by omega), iDiv_nn (by omega) (by omega) (by omega) (by omega)]
  exact ⟨by omega, kk⟩
theorem k_oddsBehind (h : HRel g t V) (hV : WF V) {x1 x2 : Int} (a0 : 0 ≤ x1) (a1 : x1 ≤ 10000) (b0 : 0 ≤ x2) (b1 : x2 ≤ 9) (kk : K (.inl (vI (obS V x1 x2))) (stt g)) : Ct Γ l d b yX2_oddsBehind mX2_oddsBehind [vR t, vI x1, vI x2] (stt g) K := by
  have h6 := hV.1.2.2.1
  apply wpX2_oddsBehind h.hi
  have e : iMax 0 (V 3 - 10 * x2) = chS V x2 := by
    rw [iMax_id (by omega) (by omega) (by omega) (by omega)]
    rfl
  have e1 : 0 ≤ chS V x2 ∧ chS V x2 ≤ 100 := by
    unfold chS
    omega
  rw [h.noi, e, iDiv_nn]
  · exact kk
  · exact Int.mul_nonneg a0 (by omega)
  · have : x1 * (100 - chS V x2) ≤ 10000 * 100 := Int.mul_le_mul a1 (by omega) (by omega) (by omega)
    omega
  · decide
  · decide
theorem obS_rng (hV : WF V) {x1 x2 : Int} (a0 : 0 ≤ x1) (a1 : x1 ≤ 10000) (b0 : 0 ≤ x2) (b1 : x2 ≤ 9) : 0 ≤ obS V x1 x2 ∧ obS V x1 x2 ≤ 10000 := by
  have h6 := hV.1.2.2.1
  have e1 : 0 ≤ chS V x2 ∧ chS V x2 ≤ 100 := by
    unfold chS
    omega
  have h1 : 0 ≤ x1 * (100 - chS V x2) := Int.mul_nonneg a0 (by omega)
  have h2 : x1 * (100 - chS V x2) ≤ 10000 * 100 := Int.mul_le_mul a1 (by omega) (by omega) (by omega)
  unfold obS
  omega
theorem k_bitsOf (h : HRel g t V) (hV : WF V) {s : Int} (s0 : 0 ≤ s) (s1 : s ≤ 2) (kk : K (.inl (vI (btS V s))) (stt g)) : Ct Γ l (d + 1) b yX2_bitsOf mX2_bitsOf [vR t, vI s] (stt g) K := by
  have h6 := hV.1.1
  apply wpX2_bitsOf h.hi
  refine up_loop (P := fun n => AW Γ l mX2_bitsOf (d + 1) b 4 [vR t, vI s, vI (fd (fun b p => if zS V p = s then iOr b (iShl 1 p) else b) 0 n), vI n] [] (stt g) K) (N := (V 0).toNat) ?_ (fun n hn hi => ?_) 0 (Nat.zero_le _)
  · apply wpX2_bitsOf_4 h.hi
    rw [h.ppl, wr_id (x := V 0) (by omega) (by omega), wr_id (x := ((V 0).toNat : Int)) (by omega) (by omega)]
    exact ⟨fun _ => kk, fun hc => absurd (show V 0 ≤ ((V 0).toNat : Int) by omega) hc⟩
  · have hp := hV.pn (p := n) (by omega) (by omega)
    apply wpX2_bitsOf_4 h.hi
    rw [h.ppl, wr_id (x := V 0) (by omega) (by omega), wr_id (x := (n : Int)) (by omega) (by omega), h.cS (by omega) (by omega), wr_id (x := zS V n) (by omega) (by omega), wr_id (x := s) (by omega) (by omega)]
    refine ⟨fun hc => absurd hc (by omega), fun _ => ⟨fun hc => ?_, fun hc => ?_⟩⟩
    · have hi : AW Γ l mX2_bitsOf (d + 1) b 4 [vR t, vI s, vI (if zS V n = s then iOr (fd (fun b p => if zS V p = s then iOr b (iShl 1 p) else b) 0 n) (iShl 1 n) else fd (fun b p => if zS V p = s then iOr b (iShl 1 p) else b) 0 n), vI ((n + 1 : Nat) : Int)] [] (stt g) K := hi
      rw [if_neg hc] at hi
      exact hi
    · have hi : AW Γ l mX2_bitsOf (d + 1) b 4 [vR t, vI s, vI (if zS V n = s then iOr (fd (fun b p => if zS V p = s then iOr b (iShl 1 p) else b) 0 n) (iShl 1 n) else fd (fun b p => if zS V p = s then iOr b (iShl 1 p) else b) 0 n), vI ((n + 1 : Nat) : Int)] [] (stt g) K := hi
      rw [if_pos (by omega)] at hi
      exact hi
theorem k_alikeFirst (h : HRel g t V) (hV : WF V) (p0 : 0 ≤ p) (p1 : p < 6) (q0 : 0 ≤ q) (q1 : q < 6) (kk : ∀ r, AF V p q r → K (.inl (vI r)) (stt g)) : Ct Γ l (d + 2) b yX2_alikeFirst mX2_alikeFirst [vR t, vI p, vI q] (stt g) K := by
  have hp := hV.pn p0 p1
  have hq := hV.pn q0 q1
  apply wpX2_alikeFirst h.hi
  have em : iMin (zL V p) (zL V q) = mnL V p q := iMin_id (by omega) (by omega) (by omega) (by omega)
  have hm : 0 ≤ mnL V p q ∧ mnL V p q ≤ zL V p ∧ mnL V p q ≤ zL V q := by
    unfold mnL
    omega
  rw [h.cL p0 p1, h.cL q0 q1, em]
  refine up_loop (P := fun n => (∀ k, 0 ≤ k → k < (n : Int) → zW V p k = zW V q k) → AW Γ l mX2_alikeFirst (d + 2) b 23 [vR t, vI p, vI q, vI (mnL V p q), vI n] [] (stt g) K) (N := (mnL V p q).toNat) (fun ha => ?_) (fun n hn hi ha => ?_) 0 (Nat.zero_le _) (fun k k0 k1 => absurd k1 (by omega))
  · apply wpX2_alikeFirst_23 h.hi
    rw [wr_id (x := mnL V p q) (by omega) (by omega), wr_id (x := ((mnL V p q).toNat : Int)) (by omega) (by omega)]
    exact ⟨fun _ => kk _ ⟨by omega, by omega, ha, fun hc => absurd hc (by omega)⟩, fun hc => absurd (show mnL V p q ≤ ((mnL V p q).toNat : Int) by omega) hc⟩
  · have hk1 := hV.kn p0 p1 (k := n) (by omega) (by omega)
    have hk2 := hV.kn q0 q1 (k := n) (by omega) (by omega)
    apply wpX2_alikeFirst_23 h.hi
    rw [wr_id (x := mnL V p q) (by omega) (by omega), wr_id (x := (n : Int)) (by omega) (by omega), h.cW p0 p1 (by omega) (by omega), h.cW q0 q1 (by omega) (by omega), wr_id (x := 10 * zK V p n + zN V p n) (by omega) (by omega), wr_id (x := 10 * zK V q n + zN V q n) (by omega) (by omega), zW_eq hV p0 p1 q0 q1 (by omega) (by omega)]
    refine ⟨fun hc => absurd hc (by omega), fun _ => ⟨fun hc => kk _ ⟨by omega, by omega, ha, fun _ => hc⟩, fun hc => hi (fun k k0 k1 => ?_)⟩⟩
    by_cases e : k = n
    · rw [e]
      exact Decidable.not_not.mp hc
    · exact ha k k0 (by omega)
theorem k_alikeInAll (h : HRel g t V) (hV : WF V) (p0 : 0 ≤ p) (p1 : p < 6) (q0 : 0 ≤ q) (q1 : q < 6) (kk : K (.inl (vI (aaS V p q))) (stt g)) : Ct Γ l (d + 2) b yX2_alikeInAll mX2_alikeInAll [vR t, vI p, vI q] (stt g) K := by
  have hp := hV.pn p0 p1
  have hq := hV.pn q0 q1
  apply wpX2_alikeInAll h.hi
  have em : iMin (zL V p) (zL V q) = mnL V p q := iMin_id (by omega) (by omega) (by omega) (by omega)
  have hm : 0 ≤ mnL V p q ∧ mnL V p q ≤ zL V p ∧ mnL V p q ≤ zL V q := by
    unfold mnL
    omega
  rw [h.cL p0 p1, h.cL q0 q1, em]
  refine up_loop (P := fun n => AW Γ l mX2_alikeInAll (d + 2) b 26 [vR t, vI p, vI q, vI (mnL V p q), vI (fd (fun c k => if zW V p k = zW V q k then c + 1 else c) 0 n), vI n] [] (stt g) K) (N := (mnL V p q).toNat) ?_ (fun n hn hi => ?_) 0 (Nat.zero_le _)
  · apply wpX2_alikeInAll_26 h.hi
    rw [wr_id (x := mnL V p q) (by omega) (by omega), wr_id (x := ((mnL V p q).toNat : Int)) (by omega) (by omega)]
    exact ⟨fun _ => kk, fun hc => absurd (show mnL V p q ≤ ((mnL V p q).toNat : Int) by omega) hc⟩
  · have hk1 := hV.kn p0 p1 (k := n) (by omega) (by omega)
    have hk2 := hV.kn q0 q1 (k := n) (by omega) (by omega)
    apply wpX2_alikeInAll_26 h.hi
    rw [wr_id (x := mnL V p q) (by omega) (by omega), wr_id (x := (n : Int)) (by omega) (by omega), h.cW p0 p1 (by omega) (by omega), h.cW q0 q1 (by omega) (by omega), wr_id (x := 10 * zK V p n + zN V p n) (by omega) (by omega), wr_id (x := 10 * zK V q n + zN V q n) (by omega) (by omega), zW_eq hV p0 p1 q0 q1 (by omega) (by omega)]
    have hi : AW Γ l mX2_alikeInAll (d + 2) b 26 [vR t, vI p, vI q, vI (mnL V p q), vI (if zW V p n = zW V q n then fd (fun c k => if zW V p k = zW V q k then c + 1 else c) 0 n + 1 else fd (fun c k => if zW V p k = zW V q k then c + 1 else c) 0 n), vI ((n + 1 : Nat) : Int)] [] (stt g) K := hi
    refine ⟨fun hc => absurd hc (by omega), fun _ => ⟨fun hc => ?_, fun hc => ?_⟩⟩
    · rw [if_neg hc] at hi
      exact hi
    · rw [if_pos (Decidable.not_not.mp hc)] at hi
      exact hi
theorem k_settle (h : HRel g t V) (hV : WF V) {s c : Int} (p0 : 0 ≤ p) (p1 : p < 6) (kk : ∀ g', HRel g' t (setS V p s c) → onlyH g g' t → K (.inl vU) (stt g')) : Ct Γ l (d + 1) b yX2_settle mX2_settle [vR t, vI p, vI s, vI c] (stt g) K := by
  have hl := hV.1.2.2.2.2.2
  apply wpX2_settle h.hi
  intro g1 e1
  rw [puc_in p0 (by rw [h.hi.l5]; exact p1), puc_in p0 (by rw [h.hi.l4]; exact p1)] at e1
  refine kk g1 ?_ ?_
  · rw [e1]
    exact (h.arr (c := 4) (by decide) (by decide) p0 p1 hl.2).arr (c := 5) (by decide) (by decide) p0 p1 (by rw [upV_ne (by omega)]; exact hl.2)
  · intro a j ha
    rw [e1, upd2_ne (by omega), upd2_ne (by omega)]
theorem k_draw (h : HRel g t V) (hV : WF V) (kk : ∀ g', HRel g' t (upV V 7 (sdS V)) → onlyH g g' t → K (.inl (vI (drS V))) (stt g')) : Ct Γ l d b yX2_draw mX2_draw [vR t] (stt g) K := by
  have hl := hV.1.2.2.2.2.2
  apply wpX2_draw h.hi
  intro g1 e1
  rw [h.see] at e1
  have e2 : g1 t 13 = sdS V := by rw [e1, upd2_eq]; rfl
  rw [e2]
  refine kk g1 ?_ ?_
  · rw [e1]
    exact h.fld (f := 13) (by decide) (by decide) hl.2
  · intro a j ha
    rw [e1, upd2_ne (by omega)]
end HC
