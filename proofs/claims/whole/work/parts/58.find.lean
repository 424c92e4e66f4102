/-! AN ORDER OF WHAT IS SAID: the class's call -/
def uU (V : VV) (p : Int) : Int := (unF (zW V p) (zL V p).toNat).1
def uA (V : VV) (p : Int) : Int → Int := (unF (zW V p) (zL V p).toNat).2.1
def uN (V : VV) (p : Int) : Int → Int := (unF (zW V p) (zL V p).toNat).2.2
/-- what is sure along the order of a number -/
def srO (V : VV) (p num : Int) : Int := srF V p (uA V p) (uN V p) 9999 (fun _ => 0) 0 (ordS (uU V p).toNat (pwS (uU V p) - 1) num)
def bestO (V : VV) (p Nn : Int) : Prop := (0 ≤ Nn ∧ Nn < fac (uU V p).toNat) ∧ (∀ num, 0 ≤ num → num < fac (uU V p).toNat → srO V p num ≤ srO V p Nn) ∧ ∀ num, 0 ≤ num → num < Nn → srO V p num < srO V p Nn
theorem bestO_one {V : VV} {p n n' : Int} (h : bestO V p n) (h' : bestO V p n') : n = n' := by
  have a := h.2.1 n' h'.1.1 h'.1.2
  have c := h'.2.1 n h.1.1 h.1.2
  have t1 : ¬ n < n' := fun t => by have := h'.2.2 n h.1.1 t; omega
  have t2 : ¬ n' < n := fun t => by have := h.2.2 n' h'.1.1 t; omega
  omega
def oAns (V : VV) (p k Nn : Int) : Int := if k = -1 then srO V p Nn else if 0 ≤ k ∧ k < uU V p then (ordS (uU V p).toNat (pwS (uU V p) - 1) Nn).getD k.toNat 0 else -1
theorem bt_full {n : Int} (n0 : 0 ≤ n) (n1 : n ≤ 6) : (0 ≤ pwS n - 1 ∧ pwS n - 1 < 64) ∧ szS (pwS n - 1) = n := by
  have h := List.all_eq_true.mp (show (List.range 7).all (fun n => decide ((0 ≤ pwS (n : Int) - 1 ∧ pwS (n : Int) - 1 < 64) ∧ szS (pwS (n : Int) - 1) = n)) = true by decide +kernel) n.toNat (List.mem_range.mpr (by omega))
  rw [decide_eq_true_iff, Int.toNat_of_nonneg n0] at h
  exact h
theorem dpf_s (f : Int → Int × Int) (k : Nat) : dpf f (k + 1) = dpf f k + (if (f k).1 = 8 then 1 else if (f k).1 = 9 then -1 else 0) := rfl
section OF
variable {Γ : Cfg} {l : Launch} {V : VV} {p : Int}
/-- units in the class's rows -/
def UR (g : GG) (s : Int × (Int → Int) × (Int → Int)) : Prop := g 161 7 = s.1 ∧ ∀ j, 0 ≤ j → j < s.1 → j < 6 → g 162 j = s.2.1 j ∧ g 163 j = s.2.2 j
def onlyU (g g' : GG) : Prop := ∀ a j, ¬ (a = 161 ∧ j = 7) → a ≠ 162 → a ≠ 163 → g' a j = g a j
theorem onlyU.tr {g g1 g2 : GG} (h : onlyU g g1) (h2 : onlyU g1 g2) : onlyU g g2 := fun a j a1 a2 a3 => by rw [h2 a j a1 a2 a3, h a j a1 a2 a3]
theorem onlyU.c {g g' : GG} (h : onlyU g g') : kC g g' := fun a j hs => h a j (by unfold cS at hs; omega) (by unfold cS at hs; omega) (by unfold cS at hs; omega)
theorem puc_162 (g : GG) (i v : Int) (hi : wr i = i) : puc g 162 i v = if 0 ≤ i ∧ i < 6 then upd2 g 162 i v else g := by
  have l162 : ln 162 = 6 := by decide +kernel
  unfold puc
  rw [hi, l162]
theorem puc_163 (g : GG) (i v : Int) (hi : wr i = i) : puc g 163 i v = if 0 ≤ i ∧ i < 6 then upd2 g 163 i v else g := by
  have l163 : ln 163 = 6 := by decide +kernel
  unfold puc
  rw [hi, l163]
theorem puc_ne {g : GG} {r i v a j : Int} (h : a ≠ r) : puc g r i v a j = g a j := by
  unfold puc
  by_cases c : 0 ≤ wr i ∧ wr i < ln r
  · rw [if_pos c, upd2_ne h]
  · rw [if_neg c]
theorem k_units {d b : Nat} {g : GG} {K : Ou → HP → Prop} (h : HRel g 8 V) (hV : WF V) (p0 : 0 ≤ p) (p1 : p < V 0) (e6 : g 161 6 = p) (kk : ∀ g', onlyU g g' → UR g' (unF (zW V p) (zL V p).toNat) → K (.inl vU) (stt g')) : Ct Γ l (d + 3) b yX5_partUnits mX5_partUnits [vR 161, vR 8] (stt g) K := by
  have h6 := hV.1.1
  have hq := hV.pn p0 (show p < 6 by omega)
  have po := hV.po p0 (show p < 6 by omega)
  have l163 : ln 163 = 6 := by decide +kernel
  apply wpX5_partUnits h.hi
  refine up_loop (P := fun i => ∀ g1, onlyU g g1 → UR g1 (unF (zW V p) i) → AW Γ l mX5_partUnits (d + 3) b 9 [vR 161, vR 8, vI (dpf (zW V p) i), vI i, vU] [] (stt g1) K) (N := (zL V p).toNat) (fun g1 o1 u1 => ?_) (fun i hi9 hi g1 o1 u1 => ?_) 0 (Nat.zero_le _) _ (fun a j a1 _ _ => if_neg (fun e => a1 ⟨e.2, e.1⟩)) ⟨upd2_eq, fun j j0 j1 => absurd (show j < 0 from j1) (by omega)⟩
  · have h1 : HRel g1 8 V := h.fr fun a j a0 a1 => o1 a j (by omega) (by omega) (by omega)
    apply wpX5_partUnits_9 h.hi
    rw [o1 161 6 (by decide) (by decide) (by decide), e6, h1.cL p0 (by omega), wr_id (x := zL V p) (by omega) (by omega), wr_id (x := ((zL V p).toNat : Int)) (by omega) (by omega)]
    exact ⟨fun _ => kk g1 o1 u1, fun c => absurd (show zL V p ≤ ((zL V p).toNat : Int) by omega) c⟩
  · have h1 : HRel g1 8 V := h.fr fun a j a0 a1 => o1 a j (by omega) (by omega) (by omega)
    have ui := UI_all (zW V p) i
    have dp := po.2.2.1 i (by omega)
    have hi2 : ∀ g1 : GG, onlyU g g1 → UR g1 (unF (zW V p) (i + 1)) → ∀ v : AV, AW Γ l mX5_partUnits (d + 3) b 9 [vR 161, vR 8, vI (dpf (zW V p) i + (if (zW V p i).1 = 8 then 1 else if (zW V p i).1 = 9 then -1 else 0)), vI ((i : Int) + 1), v] [] (stt g1) K := fun g1 a1 a2 v => by
      have := hi g1 a1 a2
      rw [dpf_s] at this
      exact AW.weak this (by simp [leP])
    -- the last unit grows
    have grow : ∀ (g2 : GG) (u : Int), onlyU g g2 → 1 ≤ u → u ≤ 12 → g2 161 7 = u → (∀ g3 : GG, onlyU g g3 → g3 161 7 = u → (∀ j, g3 162 j = g2 162 j) → (∀ j, 0 ≤ j → j < 6 → g3 163 j = if j = u - 1 then g2 163 j + 1 else g2 163 j) → UR g3 (unF (zW V p) (i + 1))) → AW Γ l mX5_partUnits (d + 3) b 62 [vR 161, vR 8, vI (dpf (zW V p) i), vI i, vU] [] (stt g2) K := by
      intro g2 u o2 ge1 u12 e7 hu
      have h2 : HRel g2 8 V := h.fr fun a j a0 a1 => o2 a j (by omega) (by omega) (by omega)
      apply wpX5_partUnits_62 h.hi
      rw [o2 161 6 (by decide) (by decide) (by decide), e6]
      refine k_kindAt h2 hV p0 (by omega) (by omega) (by omega) (bI_in ?_)
      have ek : kdAt V p i = (zW V p i).1 := by unfold kdAt; rw [if_pos (by omega)]; rfl
      have kn := hV.kn p0 (show p < 6 by omega) (k := (i : Int)) (by omega) (by omega)
      have kn1 : 0 ≤ (zW V p i).1 ∧ (zW V p i).1 ≤ 9 := kn.1
      rw [ek, wr_id (x := (zW V p i).1) (by omega) (by omega), e7]
      have st : ∀ g3 : GG, g3 = puc g2 163 (u - 1) (cel g2 163 (u - 1) + 1) → onlyU g g3 ∧ UR g3 (unF (zW V p) (i + 1)) := fun g3 e3 => by
        have e3' := e3
        rw [puc_163 _ _ _ (wr_id (by omega) (by omega))] at e3
        have o3 : onlyU g g3 := fun a j a1 a2 a3 => by rw [e3', puc_ne a3, o2 a j a1 a2 a3]
        refine ⟨o3, hu g3 o3 (by rw [e3', puc_ne (by decide), e7]) (fun j => by rw [e3', puc_ne (by decide)]) (fun j j0 j1 => ?_)⟩
        by_cases c : u - 1 < 6
        · rw [e3, if_pos ⟨by omega, c⟩, cel_in (by omega) (by rw [l163]; exact c)]
          by_cases x : j = u - 1
          · rw [if_pos x, x, upd2_eq]
          · rw [if_neg x, upd2_nj x]
        · rw [e3, if_neg (fun h => c h.2), if_neg (by omega)]
      refine ⟨fun c8 => ⟨fun c9 g3 e3 => ?_, fun c9 g3 e3 => ?_⟩, fun c8 g3 e3 => ?_⟩
      · have := hi2 g3 (st g3 e3).1 (st g3 e3).2 (vI (zW V p i).1)
        rw [if_neg c8, if_neg c9] at this
        exact this
      · have := hi2 g3 (st g3 e3).1 (st g3 e3).2 (vI (zW V p i).1)
        rw [if_neg c8, if_pos (Decidable.not_not.mp c9)] at this
        exact this
      · have := hi2 g3 (st g3 e3).1 (st g3 e3).2 (vI (zW V p i).1)
        rw [if_pos (Decidable.not_not.mp c8)] at this
        exact this
    have e : unF (zW V p) (i + 1) = if dpf (zW V p) i = 0 then ((unF (zW V p) i).1 + 1, upV (unF (zW V p) i).2.1 (unF (zW V p) i).1 i, upV (unF (zW V p) i).2.2 (unF (zW V p) i).1 1) else ((unF (zW V p) i).1, (unF (zW V p) i).2.1, upV (unF (zW V p) i).2.2 ((unF (zW V p) i).1 - 1) ((unF (zW V p) i).2.2 ((unF (zW V p) i).1 - 1) + 1)) := rfl
    rw [e] at grow
    unfold UR at u1
    generalize (unF (zW V p) i).1 = u at ui u1 grow
    generalize (unF (zW V p) i).2.1 = A at ui u1 grow
    generalize (unF (zW V p) i).2.2 = N at ui u1 grow
    obtain ⟨e7, ur⟩ := u1
    obtain ⟨⟨u0, ui1, ui2⟩, -, -, ui3⟩ := ui
    apply wpX5_partUnits_9 h.hi
    rw [o1 161 6 (by decide) (by decide) (by decide), e6, h1.cL p0 (by omega), wr_id (x := zL V p) (by omega) (by omega), wr_id (x := (i : Int)) (by omega) (by omega), wr_id (x := dpf (zW V p) i) (by omega) (by omega)]
    refine ⟨fun c => absurd c (by omega), fun _ => ⟨fun c => ?_, fun c g2 e2 => ?_⟩⟩
    · have i0 : 0 < i := by
        by_cases q : i = 0
        · rw [q] at c; exact absurd rfl c
        · omega
      have u1' := ui2 i0
      refine AW.weak (grow g1 u o1 u1' (by omega) e7 (fun g3 o3 e73 e23 e33 => ?_)) (by simp [leP])
      rw [if_neg c]
      refine ⟨e73, fun j j0 j1 j6 => ?_⟩
      have j1 : j < u := j1
      rw [e23, e33 j j0 j6]
      refine ⟨(ur j j0 j1 j6).1, ?_⟩
      show (if j = u - 1 then g1 163 j + 1 else g1 163 j) = upV N (u - 1) (N (u - 1) + 1) j
      by_cases x : j = u - 1
      · rw [if_pos x, ← x, upV_eq, (ur j j0 j1 j6).2]
      · rw [if_neg x, upV_ne x, (ur j j0 j1 j6).2]
    · have c := Decidable.not_not.mp c
      have e2' := e2
      rw [puc_ne (by decide), e7, puc_163 _ _ _ (wr_id (by omega) (by omega)), puc_162 _ _ _ (wr_id (by omega) (by omega))] at e2
      have r7 : g2 161 7 = u := by rw [e2', puc_ne (by decide), puc_ne (by decide), e7]
      rw [r7]
      have o2 : onlyU g (upd2 g2 161 7 (u + 1)) := fun a j a1 a2 a3 => by
        rw [show upd2 g2 161 7 (u + 1) a j = g2 a j from if_neg (fun e => a1 ⟨e.2, e.1⟩), e2', puc_ne a3, puc_ne a2, o1 a j a1 a2 a3]
      have v2 : ∀ j, 0 ≤ j → j < 6 → g2 162 j = (if j = u then (i : Int) else g1 162 j) ∧ g2 163 j = (if j = u then 0 else g1 163 j) := fun j j0 j1 => by
        by_cases q : u < 6
        · rw [if_pos ⟨u0, q⟩, if_pos ⟨u0, q⟩] at e2
          by_cases x : j = u
          · rw [if_pos x, if_pos x, e2, x, upd2_ne (by decide), upd2_eq, upd2_eq]; exact ⟨rfl, rfl⟩
          · rw [if_neg x, if_neg x, e2, upd2_ne (by decide), upd2_nj x, upd2_nj x, upd2_ne (by decide)]; exact ⟨rfl, rfl⟩
        · rw [if_neg (fun h => q h.2), if_neg (fun h => q h.2)] at e2
          rw [if_neg (by omega), if_neg (by omega), e2]; exact ⟨rfl, rfl⟩
      refine AW.weak (grow (upd2 g2 161 7 (u + 1)) (u + 1) o2 (by omega) (by omega) upd2_eq (fun g3 o3 e73 e23 e33 => ?_)) (by simp [leP])
      rw [if_pos c]
      refine ⟨e73, fun j j0 j1 j6 => ?_⟩
      have j1 : j < u + 1 := j1
      have v := v2 j j0 j6
      rw [e23, e33 j j0 j6, upd2_ne (by decide), upd2_ne (by decide), v.1, v.2]
      refine ⟨?_, ?_⟩
      · show (if j = u then (i : Int) else g1 162 j) = upV A u i j
        by_cases x : j = u
        · rw [if_pos x, x, upV_eq]
        · rw [if_neg x, upV_ne x, (ur j j0 (by omega) j6).1]
      · show (if j = u + 1 - 1 then (if j = u then (0 : Int) else g1 163 j) + 1 else (if j = u then 0 else g1 163 j)) = upV N u 1 j
        by_cases x : j = u
        · rw [if_pos (by omega), if_pos x, x, upV_eq]; rfl
        · rw [if_neg (by omega), if_neg x, upV_ne x, (ur j j0 (by omega) j6).2]
theorem k_findO {d b : Nat} {g : GG} {K : Ou → HP → Prop} (h : CS g V V) (p0 : 0 ≤ p) (p1 : p < V 0) (k1 : uU V p ≤ 6 → ∀ g' Nn, kC g g' → g' 161 7 = uU V p → bestO V p Nn → g' 161 8 = srO V p Nn → (∀ i : Nat, (i : Int) < uU V p → g' 166 i = (ordS (uU V p).toNat (pwS (uU V p) - 1) Nn).getD i 0) → K (.inl (vI 1)) (stt g')) (k2 : ¬ uU V p ≤ 6 → ∀ g', kC g g' → K (.inl (vI 0)) (stt g')) : Ct Γ l (d + 13) b yX5_find mX5_find [vR 161, vR 8, vI p] (stt g) K := by
  have hV := h.2.1
  have hW := h.2.2.2
  have h6 := hV.1.1
  have hq := hV.pn p0 (show p < 6 by omega)
  have ui := (UI_all (zW V p) (zL V p).toNat).1
  have hu12 : 0 ≤ uU V p ∧ uU V p ≤ 12 ∧ 1 ≤ uU V p := ⟨ui.1, by have := ui.2.1; unfold uU; omega, ui.2.2 (by have := (hq.2.2.2.2.2 p1).1; omega)⟩
  apply wpX5_find h.1.hi
  have hc : kC g (upd2 (upd2 g 161 6 p) 161 8 (-1)) := fun a j hs => by
    have x : a ≠ 161 := by unfold cS at hs; omega
    rw [upd2_ne x, upd2_ne x]
  have q6 : upd2 (upd2 g 161 6 p) 161 8 (-1) 161 6 = p := by rw [upd2_nj (by decide), upd2_eq]
  have q8 : upd2 (upd2 g 161 6 p) 161 8 (-1) 161 8 = -1 := upd2_eq
  generalize upd2 (upd2 g 161 6 p) 161 8 (-1) = g0 at hc q6 q8 ⊢
  have h0 := h.kc hc
  refine k_units h0.1 hV p0 p1 q6 fun g1 o1 u1 => bV_in ?_
  have h1 := h0.kc o1.c
  have r7 : g1 161 7 = uU V p := u1.1
  have r6 : g1 161 6 = p := by rw [o1 _ _ (by decide) (by decide) (by decide), q6]
  have r8 : g1 161 8 = -1 := by rw [o1 _ _ (by decide) (by decide) (by decide), q8]
  rw [r7, wr_id (x := uU V p) (by omega) (by omega)]
  refine ⟨fun c => ?_, fun c => k2 c g1 (hc.tr o1.c)⟩
  obtain ⟨ut, sn⟩ := UT_of hV p0 p1 c
  have ut : UT V p (uU V p) (uA V p) (uN V p) := ut
  have od : OD g1 V p (uU V p) (uA V p) (uN V p) := ⟨h1, r6, r7, fun j j0 j1 => u1.2 j j0 j1 (by omega)⟩
  have bf := bt_full (n := uU V p) hu12.1 c
  have pw := pw_ok (n := uU V p) hu12.1 c
  have fp := fac_pos (uU V p).toNat
  have g0' : GS V p (fun _ => 0) 0 := ⟨fun k hk => absurd hk (by omega), fun k hk => by
    rw [show k = 0 by omega]
    show (0 : Int) ≤ 0 ∧ (0 : Int) ≤ 3
    decide, rfl⟩
  refine k_place ut p0 p1 (uU V p).toNat (D := d + 12) (d := d + (6 - (uU V p).toNat)) (ps := []) (S := pwS (uU V p) - 1) (U := 0) (least := 9999) (pl := fun _ => 0) (fl := 0) (by omega) od bf.1.1 bf.1.2 (fun q q0 q1 hb => (pw.2.1 q q0 q1).mp hb) (by rw [bf.2]; omega) (by decide) (by decide) (fun q q0 q1 => ⟨fun hb => absurd hb (fun c => bt_0 c), fun hb => absurd ((pw.2.1 q q0 (by omega)).mpr q1) hb⟩) (by show (0 : Int) + _ = _; omega) (fun i hi => absurd hi (Nat.not_lt_zero _)) g0' (fun k hk => absurd hk (by omega)) (by show (0 : Int) + _ = _; rw [Int.zero_add]; exact sn) (by decide) (by decide) (by omega) (by omega) fun g2 o2 _ _ oe => bV_in ?_
  rcases oe with ⟨a1, a2, a3⟩ | ⟨Nn, b1, b2, b3, b4, b5, b6⟩
  · exfalso
    have oi := ord_in (uU V p).toNat (pwS (uU V p) - 1) 0 bf.1.1 bf.1.2 (by rw [bf.2]; omega) (by decide) (by omega)
    have := srF_le hV hW p0 (show p < 6 by omega) ut (ordS (uU V p).toNat (pwS (uU V p) - 1) 0) (least := 9999) (by decide) (by decide) g0' (fun x hx => ⟨(oi.2 x hx).1, (pw.2.1 x (oi.2 x hx).1 (oi.2 x hx).2.1).mp (oi.2 x hx).2.2⟩)
    have := a3 0 (by decide) (by omega)
    omega
  · have e8 : g2 161 8 = srO V p Nn := b2
    have oi := ord_in (uU V p).toNat (pwS (uU V p) - 1) Nn bf.1.1 bf.1.2 (by rw [bf.2]; omega) b1.1 b1.2
    refine k1 c g2 Nn ((hc.tr o1.c).tr o2.c) (by rw [(od.e o2).2.2.1]) ⟨b1, fun num n0 n1 => ?_, fun num n0 n1 => ?_⟩ e8 (fun i hi => ?_)
    · rw [← e8]; exact b4 num n0 n1
    · rw [← e8]; exact b5 num n0 n1
    · exact b6 i (by show i < (ordS (uU V p).toNat (pwS (uU V p) - 1) Nn).length; rw [oi.1]; omega)
theorem k_order {d b : Nat} {g : GG} {K : Ou → HP → Prop} {k : Int} (h : CS g V V) (hb : 1 ≤ b) (hp : wr p = p) (hk : wr k = k) (k0 : ¬ (0 ≤ p ∧ p < V 0) → K (.inr eIO) (stt g)) (k1 : 0 ≤ p → p < V 0 → uU V p ≤ 6 → ∀ g' Nn, kC g g' → bestO V p Nn → K (.inl (vI (oAns V p k Nn))) (stt g')) (k2 : 0 ≤ p → p < V 0 → ¬ uU V p ≤ 6 → ∀ g', kC g g' → K (.inl (vI (-1))) (stt g')) : Ct Γ l (d + 14) b yX11_order mX11_order [vR 1, vI p, vI k] (stt g) K := by
  have l166 : ln 166 = 6 := by decide +kernel
  have w1 : wr 1 = 1 := by decide +kernel
  apply wpX11_order hb
  rw [hk]
  refine k_needPerson h (by decide) hp (fun p0 p1 => bV_in ?_) (fun z => bV_th (k0 z))
  refine k_findO h p0 p1 (fun c g' Nn hc e7 bo e8 e6 => bI_in ?_) (fun c g' hc => bI_in ?_)
  · have k1 := k1 p0 p1 c g' Nn hc bo
    unfold oAns at k1
    have hu0 : 0 ≤ uU V p := (UI_all (zW V p) (zL V p).toNat).1.1
    rw [w1, e7, wr_id (x := uU V p) (by omega) (by omega)]
    refine ⟨fun _ => ⟨fun z => ⟨fun z2 => ?_, fun z2 => ⟨fun z3 => ?_, fun z3 => ?_⟩⟩, fun z => ?_⟩, fun z => absurd (by decide) z⟩
    · rw [if_neg z, if_neg (by omega)] at k1; exact k1
    · rw [if_neg z, if_neg (by omega)] at k1; exact k1
    · rw [if_neg z, if_pos (by omega)] at k1
      rw [cel_in (by omega) (by rw [l166]; omega)]
      have := e6 k.toNat (by omega)
      rw [Int.toNat_of_nonneg (by omega)] at this
      rw [this]; exact k1
    · rw [if_pos (Decidable.not_not.mp z)] at k1
      rw [e8]; exact k1
  · rw [wr_0]
    exact ⟨fun z => absurd rfl z, fun _ => k2 p0 p1 c g' hc⟩
end OF
