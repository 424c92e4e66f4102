/-! AN ORDER OF WHAT IS SAID: the class's search -/
def snS (N : Int → Int) (S : Int) (n : Nat) : Int := fd (fun s j => if S.toNat.testBit j.toNat = true then s + N j else s) 0 n
theorem sn_rm {N : Int → Int} {S x : Int} (s0 : 0 ≤ S) (s1 : S < 64) (x0 : 0 ≤ x) (x1 : x < 6) (hb : bt S x) : ∀ n : Nat, n ≤ 6 → snS N (rmS S x) n = snS N S n - (if x < n then N x else 0) := fun n => by
  have r := rm_ok s0 s1 x0 x1
  induction n with
  | zero =>
    intro _
    rw [if_neg (by omega)]; rfl
  | succ n ih =>
    intro hn
    have ih := ih (by omega)
    have rb := r.2.1 (n : Int) (by omega) (by omega)
    unfold bt at rb hb
    have e : ∀ T : Int, snS N T (n + 1) = if T.toNat.testBit ((n : Int)).toNat = true then snS N T n + N n else snS N T n := fun T => rfl
    rw [e, e, ih]
    by_cases c : (n : Int) = x
    · rw [if_neg (fun h => (rb.mp h).2 c), if_pos (show S.toNat.testBit ((n : Int)).toNat = true by rw [c]; exact hb), if_neg (by omega), if_pos (by omega), ← c]
      omega
    · by_cases q : S.toNat.testBit ((n : Int)).toNat = true
      · rw [if_pos (rb.mpr ⟨q, c⟩), if_pos q]
        by_cases z : x < n
        · rw [if_pos z, if_pos (by omega)]; omega
        · rw [if_neg z, if_neg (by omega)]; omega
      · rw [if_neg (fun h => q (rb.mp h).1), if_neg q]
        by_cases z : x < n
        · rw [if_pos z, if_pos (by omega)]
        · rw [if_neg z, if_neg (by omega)]
theorem sn_ge {N : Int → Int} {S : Int} (hN : ∀ j, 0 ≤ j → j < 6 → bt S j → 1 ≤ N j) : ∀ n : Nat, n ≤ 6 → 0 ≤ snS N S n := fun n => by
  induction n with
  | zero => exact fun _ => Int.le_refl _
  | succ n ih =>
    intro hn
    have ih := ih (by omega)
    have e : snS N S (n + 1) = if S.toNat.testBit ((n : Int)).toNat = true then snS N S n + N n else snS N S n := rfl
    rw [e]
    by_cases q : S.toNat.testBit ((n : Int)).toNat = true
    · have := hN (n : Int) (by omega) (by omega) q
      rw [if_pos q]; omega
    · rw [if_neg q]; exact ih
/-- the units of one's words -/
theorem UT_of {V : VV} {p : Int} (hV : WF V) (p0 : 0 ≤ p) (p1 : p < V 0) (h6 : (unF (zW V p) (zL V p).toNat).1 ≤ 6) : UT V p (unF (zW V p) (zL V p).toNat).1 (unF (zW V p) (zL V p).toNat).2.1 (unF (zW V p) (zL V p).toNat).2.2 ∧ snS (unF (zW V p) (zL V p).toNat).2.2 (pwS (unF (zW V p) (zL V p).toNat).1 - 1) 6 = zL V p := by
  have hp6 := hV.1.1
  have hq := hV.pn p0 (show p < 6 by omega)
  have hl := (hq.2.2.2.2.2 p1).1
  have hd := (hV.po p0 (show p < 6 by omega)).2.2.2
  have hu := UI_all (zW V p) (zL V p).toNat
  generalize (unF (zW V p) (zL V p).toNat).1 = u at hu h6 ⊢
  generalize (unF (zW V p) (zL V p).toNat).2.1 = A at hu ⊢
  generalize (unF (zW V p) (zL V p).toNat).2.2 = N at hu ⊢
  obtain ⟨⟨u0, u1, u2⟩, h1, h2, h3⟩ := hu
  have u1' := u2 (by omega)
  have h3 := h3 u1'
  have le : ∀ i : Nat, (i : Int) < u → A (u - 1 - i) + N (u - 1 - i) ≤ zL V p := fun i => by
    induction i with
    | zero =>
      intro _
      rw [show u - 1 - ((0 : Nat) : Int) = u - 1 by omega]
      omega
    | succ i ih =>
      intro hi
      have ih := ih (by omega)
      have a := h2 (u - 1 - ((i + 1 : Nat) : Int)) (by omega) (by omega)
      rw [show u - 1 - ((i + 1 : Nat) : Int) + 1 = u - 1 - (i : Int) by omega] at a
      have b := h1 (u - 1 - (i : Int)) (by omega) (by omega)
      omega
  refine ⟨⟨⟨u1', h6⟩, fun j j0 j1 => ?_⟩, ?_⟩
  · have a := h1 j j0 j1
    have b := le (u - 1 - j).toNat (by omega)
    rw [show u - 1 - ((u - 1 - j).toNat : Int) = j by omega] at b
    refine ⟨a.1, a.2.1, b, a.2.2, ?_⟩
    by_cases c : j + 1 < u
    · rw [← h2 j j0 c]
      exact (h1 (j + 1) (by omega) c).2.2
    · rw [show j = u - 1 by omega, h3.2, show (((zL V p).toNat : Nat) : Int).toNat = (zL V p).toNat by omega]
      exact hd
  · have pw := pw_ok (n := u) (by omega) h6
    have key : ∀ n : Nat, n ≤ 6 → snS N (pwS u - 1) n = if (n : Int) < u then A n else zL V p := fun n => by
      induction n with
      | zero =>
        intro _
        rw [if_pos (by omega)]
        exact h3.1.symm
      | succ n ih =>
        intro hn
        have ih := ih (by omega)
        have e : snS N (pwS u - 1) (n + 1) = if (pwS u - 1).toNat.testBit ((n : Int)).toNat = true then snS N (pwS u - 1) n + N n else snS N (pwS u - 1) n := rfl
        have pb := pw.2.1 (n : Int) (by omega) (by omega)
        unfold bt at pb
        rw [e, ih]
        by_cases c : (n : Int) < u
        · rw [if_pos (pb.mpr c), if_pos c]
          by_cases d : ((n + 1 : Nat) : Int) < u
          · rw [if_pos d]
            have := h2 (n : Int) (by omega) (by omega)
            rw [show ((n + 1 : Nat) : Int) = (n : Int) + 1 by omega, this]
          · rw [if_neg d]
            have := h3.2
            rw [show u - 1 = (n : Int) by omega] at this
            omega
        · rw [if_neg (fun h => c (pb.mp h)), if_neg c, if_neg (by omega)]
    rw [key 6 (Nat.le_refl _), if_neg (by omega)]
/-- what the class's search stands on -/
def OD (g : GG) (V : VV) (p u : Int) (A N : Int → Int) : Prop := CS g V V ∧ g 161 6 = p ∧ g 161 7 = u ∧ ∀ j, 0 ≤ j → j < u → g 162 j = A j ∧ g 163 j = N j
def onlyE (g g' : GG) : Prop := ∀ a j, ¬ sW a j → a ≠ 164 → a ≠ 165 → a ≠ 166 → ¬ (a = 161 ∧ j = 8) → g' a j = g a j
theorem onlyE.tr {g g1 g2 : GG} (h : onlyE g g1) (h2 : onlyE g1 g2) : onlyE g g2 := fun a j a1 a2 a3 a4 a5 => by rw [h2 a j a1 a2 a3 a4 a5, h a j a1 a2 a3 a4 a5]
theorem onlyE.c {g g' : GG} (h : onlyE g g') : kC g g' := fun a j hs => h a j (by unfold sW cW; unfold cS at hs; omega) (by unfold cS at hs; omega) (by unfold cS at hs; omega) (by unfold cS at hs; omega) (by unfold cS at hs; omega)
theorem OD.e {g g' : GG} {V : VV} {p u : Int} {A N : Int → Int} (h : OD g V p u A N) (o : onlyE g g') : OD g' V p u A N := by
  refine ⟨h.1.kc o.c, ?_, ?_, fun j j0 j1 => ?_⟩
  · rw [o _ _ (nsW (by decide)) (by decide) (by decide) (by decide) (by decide)]; exact h.2.1
  · rw [o _ _ (nsW (by decide)) (by decide) (by decide) (by decide) (by decide)]; exact h.2.2.1
  · rw [o _ _ (nsW (by decide)) (by decide) (by decide) (by decide) (by omega), o _ _ (nsW (by decide)) (by decide) (by decide) (by decide) (by omega)]; exact h.2.2.2 j j0 j1
/-- the words that stand in the class's row -/
def WD (g : GG) (V : VV) (p : Int) (pl : Int → Int) (n : Nat) : Prop := ∀ k : Nat, k < n → g 164 k = 10 * zK V p (pl k) + zN V p (pl k)
section OC
variable {Γ : Cfg} {l : Launch} {V : VV} {p u : Int} {A N : Int → Int}
theorem k_least {d b : Nat} {g : GG} {K : Ou → HP → Prop} {pl : Int → Int} {fl : Nat} {x : Int} (h : OD g V p u A N) (hu : UT V p u A N) (p0 : 0 ≤ p) (p1 : p < V 0) (hg : GS V p pl fl) (hw : WD g V p pl fl) (x0 : 0 ≤ x) (x1 : x < u) (hfl : (fl : Int) + N x ≤ zL V p)
    (kk : ∀ g', onlyE g g' → (∀ j, g' 165 j = g 165 j) → (∀ j, g' 166 j = g 166 j) → g' 161 8 = g 161 8 → WD g' V p (apS A pl fl x) (fl + (N x).toNat) → K (.inl (vI (loS V p A N pl fl x))) (stt g')) : Ct Γ l (d + 4) b yX5_leastOfUnit mX5_leastOfUnit [vR 161, vR 8, vI x, vI fl] (stt g) K := by
  have hV := h.1.2.1
  have hW := h.1.2.2.2
  have h6 := hV.1.1
  have hq := hV.pn p0 (show p < 6 by omega)
  obtain ⟨a0, n0, al, d0, d1⟩ := hu.2 x x0 x1
  have hu6 := hu.1
  have ga := hg.ap hV p0 (show p < 6 by omega) hu x0 x1
  have l162 : ln 162 = 6 := by decide +kernel
  have l163 : ln 163 = 6 := by decide +kernel
  have l164 : ln 164 = 12 := by decide +kernel
  have i164 : IA 164 := show (shp 164).1 = 0 by decide +kernel
  apply wpX5_leastOfUnit h.1.1.hi
  refine up_loop (P := fun i => ∀ g1, onlyE g g1 → (∀ j, g1 165 j = g 165 j) → (∀ j, g1 166 j = g 166 j) → g1 161 8 = g 161 8 → WD g1 V p (apS A pl fl x) (fl + i) → AW Γ l mX5_leastOfUnit (d + 4) b 8 [vR 161, vR 8, vI x, vI fl, vI (fd (fun y i => iMin y (wP V p (fun k => zW V p (apS A pl fl x k)) (fl + i + 1))) 9999 i), vI i, vU] [] (stt g1) K) (N := (N x).toNat) (fun g1 o1 q5 q6 q8 w1 => ?_) (fun i hi9 hi g1 o1 q5 q6 q8 w1 => ?_) 0 (Nat.zero_le _) g (fun _ _ _ _ _ _ _ => rfl) (fun _ => rfl) (fun _ => rfl) rfl (fun k hk => ?_)
  · have od := h.e o1
    apply wpX5_leastOfUnit_8 h.1.1.hi
    rw [cel_in (r := 163) x0 (by rw [l163]; omega), (od.2.2.2 x x0 x1).2, wr_id (x := N x) (by omega) (by omega), wr_id (x := ((N x).toNat : Int)) (by omega) (by omega)]
    exact ⟨fun _ => kk g1 o1 q5 q6 q8 w1, fun c => absurd (show N x ≤ ((N x).toNat : Int) by omega) c⟩
  · have od := h.e o1
    have hr := lo_rng hV hW p0 (show p < 6 by omega) hu hg x0 x1 i (by omega)
    apply wpX5_leastOfUnit_8 h.1.1.hi
    rw [cel_in (r := 163) x0 (by rw [l163]; omega), cel_in (r := 162) x0 (by rw [l162]; omega), (od.2.2.2 x x0 x1).2, (od.2.2.2 x x0 x1).1, wr_id (x := N x) (by omega) (by omega), wr_id (x := (i : Int)) (by omega) (by omega), od.2.1]
    refine ⟨fun c => absurd c (by omega), fun _ g2 e2 => ?_⟩
    have e9 : cel g1 (8 + 1 + 0) (p * 12 + (A x + i)) = 10 * zK V p (A x + i) + zN V p (A x + i) := od.1.1.cW p0 (by omega) (by omega) (by omega)
    rw [puc_in (by omega) (by rw [l164]; omega), e9, show (fl : Int) + i + 1 - 1 = ((fl + i : Nat) : Int) by omega] at e2
    have o2 : onlyE g1 g2 := fun a j a1 a2 a3 a4 a5 => by rw [e2, upd2_ne a2]
    have w2 : WD g2 V p (apS A pl fl x) (fl + i + 1) := fun k hk => by
      by_cases c : k = fl + i
      · rw [c, e2, upd2_eq]
        have : apS A pl fl x ((fl + i : Nat) : Int) = A x + i := by
          unfold apS
          rw [if_neg (by omega)]
          omega
        rw [this]
      · rw [e2, upd2_nj (by omega)]
        exact w1 k (by omega)
    have od2 := od.e o2
    refine k_readWords (r1 := 164) (r4 := 8 + 1 + 6) (x2 := 0) (n := fl + i + 1) (f := fun k => zW V p (apS A pl fl x k)) (md := fun i => V (8 + i)) i164 h.1.1.hi.a6 (by unfold cW; omega) (by unfold cW; omega) (fun i i0 i1 => ⟨od2.1.1.cM i0 i1, hV.2.1 i i0 i1⟩) (by omega) (fun k hk => ?_) (fun k hk => ga.2.1 k (by omega)) (fun k hk => ?_) fun g3 c3 o3 => bV_in ?_
    · have := ga.1 k (by omega)
      exact hV.kn p0 (show p < 6 by omega) (by omega) (by omega)
    · rw [Int.zero_add, cel_in (by omega) (by rw [l164]; omega), w2 k hk]
      rfl
    · have o3' : onlyE g2 g3 := fun a j a1 a2 a3 a4 a5 => o3 a j (fun e => a1 (Or.inl e))
      have od3 := od2.e o3'
      have e10 : cel g3 (8 + 1 + 1) (g3 161 6) = zL V p := by rw [od3.2.1]; exact od3.1.1.cL p0 (by omega)
      have ok3 := okC_rd (f := fun k => zW V p (apS A pl fl x k)) (n := fl + i + 1) (fun k hk => by
        have := ga.1 k (by omega)
        exact hV.kn p0 (show p < 6 by omega) (by omega) (by omega)) (fun k hk => ga.2.1 k (by omega)) (fun i => V (8 + i))
      have o123 : onlyE g g3 := (o1.tr o2).tr o3'
      have hwr := wP_rng hV hW p0 (show p < 6 by omega) (pl := apS A pl fl x) (n := fl + i + 1) (fun k hk => ga.1 k (by omega)) (fun k hk => ga.2.1 k (by omega))
      have ew : wP V p (fun k => zW V p (apS A pl fl x k)) ((fl + i + 1 : Nat) : Int) = wgS V (rdC (fun k => zW V p (apS A pl fl x k)) (fl + i + 1) (fun i => V (8 + i))) (fcS p (rdC (fun k => zW V p (apS A pl fl x k)) (fl + i + 1) (fun i => V (8 + i))) ((fl + i + 1 : Nat) : Int) (whB V p ((fl + i + 1 : Nat) : Int))) := by
        unfold wP
        rw [Int.toNat_natCast]
      have ecst : ((fl + i + 1 : Nat) : Int) = (fl : Int) + i + 1 := by omega
      have fin : ∀ g4, onlyS g3 g4 → AW Γ l mX5_leastOfUnit (d + 4) b 8 [vR 161, vR 8, vI x, vI fl, vI (iMin (fd (fun y i => iMin y (wP V p (fun k => zW V p (apS A pl fl x k)) (fl + i + 1))) 9999 i) (wP V p (fun k => zW V p (apS A pl fl x k)) (fl + i + 1))), vI ((i : Int) + 1), vI ((fl : Int) + i + 1)] [] (stt g4) K := fun g4 o4 => by
        have n5 : ∀ a j, ¬ cW a → ¬ sW a j → a ≠ 164 → g4 a j = g1 a j := fun a j c1 c2 c3 => by rw [o4 _ _ c2, o3 _ _ c1, e2, upd2_ne c3]
        refine AW.weak (hi g4 (o123.tr fun a j a1 _ _ _ _ => o4 a j a1) (fun j => ?_) (fun j => ?_) ?_ (fun k hk => ?_)) (by simp [leP]; rfl)
        · rw [n5 _ _ (by unfold cW; omega) (nsW (by decide)) (by decide), q5]
        · rw [n5 _ _ (by unfold cW; omega) (nsW (by decide)) (by decide), q6]
        · rw [n5 _ _ (by unfold cW; omega) (nsW (by decide)) (by decide), q8]
        · rw [o4 _ _ (nsW (by decide)), o3 _ _ (by unfold cW; omega)]
          exact w2 k (by omega)
      rw [e10, od3.2.1, wr_id (x := (fl : Int) + i + 1) (by omega) (by omega), wr_id (x := zL V p) (by omega) (by omega)]
      rw [ecst] at ew
      refine ⟨fun z => ?_, fun z => ?_⟩
      · have ew0 : whB V p ((fl : Int) + i + 1) = 0 := by unfold whB; rw [if_neg z]
        rw [ew0] at ew
        exact k_judge od3.1.2.2.1 hW c3 ok3 (Or.inl rfl) fun g4 _ o4 => bI_in (by rw [← ew]; exact fin g4 o4)
      · have ew0 : whB V p ((fl : Int) + i + 1) = 1 := by unfold whB; rw [if_pos (by omega)]
        rw [ew0] at ew
        exact k_judge od3.1.2.2.1 hW c3 ok3 (Or.inr rfl) fun g4 _ o4 => bI_in (by rw [← ew]; exact fin g4 o4)
  · have : apS A pl fl x k = pl k := by
      unfold apS
      rw [if_pos (by omega)]
    rw [this]
    exact hw k (by omega)
end OC
