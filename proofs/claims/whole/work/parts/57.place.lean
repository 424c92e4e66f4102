/-! AN ORDER OF WHAT IS SAID: the class's search, unit by unit -/
theorem ord_blk {k : Nat} {S x r : Int} (x0 : 0 ≤ x) (x1 : x < 6) (hb : bt S x) (r0 : 0 ≤ r) (r1 : r < fac k) : ordS (k + 1) S (cnS S x * fac k + r) = x :: ordS k (rmS S x) r := by
  have fp := fac_pos k
  have e1 : (cnS S x * fac k + r) / fac k = cnS S x := by
    rw [Int.add_comm, Int.add_mul_ediv_right _ _ (by omega), Int.ediv_eq_zero_of_lt r0 r1]
    omega
  have e2 : (cnS S x * fac k + r) % fac k = r := by
    rw [Int.add_comm, Int.add_mul_emod_self_right, Int.emod_eq_of_lt r0 r1]
  show nthS S ((cnS S x * fac k + r) / fac k) :: ordS k (rmS S (nthS S ((cnS S x * fac k + r) / fac k))) ((cnS S x * fac k + r) % fac k) = _
  rw [e1, e2, nth_is x0 x1 hb]
/-- the first m orders were tried: what is best -/
def OE (V : VV) (p : Int) (A N : Int → Int) (ps : List Int) (k : Nat) (S least : Int) (pl : Int → Int) (fl : Nat) (g g' : GG) (m : Int) : Prop :=
  (g' 161 8 = g 161 8 ∧ (∀ j, g' 166 j = g 166 j) ∧ ∀ num, 0 ≤ num → num < m → srF V p A N least pl fl (ordS k S num) ≤ g 161 8) ∨
  (∃ Nn, (0 ≤ Nn ∧ Nn < m) ∧ g' 161 8 = srF V p A N least pl fl (ordS k S Nn) ∧ g 161 8 < g' 161 8 ∧ (∀ num, 0 ≤ num → num < m → srF V p A N least pl fl (ordS k S num) ≤ g' 161 8) ∧ (∀ num, 0 ≤ num → num < Nn → srF V p A N least pl fl (ordS k S num) < g' 161 8) ∧ ∀ i : Nat, i < (ps ++ ordS k S Nn).length → g' 166 i = (ps ++ ordS k S Nn).getD i 0)
theorem OE.stay {V : VV} {p : Int} {A N : Int → Int} {ps : List Int} {k : Nat} {S least : Int} {pl : Int → Int} {fl : Nat} {g g2 g3 : GG} {m f : Int} (h : OE V p A N ps k S least pl fl g g2 m) (e8 : g3 161 8 = g2 161 8) (e6 : ∀ j, g3 166 j = g2 166 j) (hb : ∀ r, 0 ≤ r → r < f → srF V p A N least pl fl (ordS k S (m + r)) ≤ g2 161 8) (f0 : 0 ≤ f) : OE V p A N ps k S least pl fl g g3 (m + f) := by
  rcases h with ⟨a1, a2, a3⟩ | ⟨Nn, b1, b2, b3, b4, b5, b6⟩
  · refine Or.inl ⟨by omega, fun j => by rw [e6, a2], fun num n0 n1 => ?_⟩
    by_cases c : num < m
    · exact a3 num n0 c
    · have := hb (num - m) (by omega) (by omega)
      rw [show m + (num - m) = num by omega] at this
      omega
  · refine Or.inr ⟨Nn, ⟨b1.1, by omega⟩, by omega, by omega, fun num n0 n1 => ?_, fun num n0 n1 => ?_, fun i hi => by rw [e6]; exact b6 i hi⟩
    · by_cases c : num < m
      · have := b4 num n0 c; omega
      · have := hb (num - m) (by omega) (by omega)
        rw [show m + (num - m) = num by omega] at this
        omega
    · have := b5 num n0 n1; omega
theorem OE.new {V : VV} {p : Int} {A N : Int → Int} {ps : List Int} {k : Nat} {S least : Int} {pl : Int → Int} {fl : Nat} {g g2 g3 : GG} {m f r : Int} (h : OE V p A N ps k S least pl fl g g2 m) (m0 : 0 ≤ m) (r0 : 0 ≤ r) (r1 : r < f) (e8 : g3 161 8 = srF V p A N least pl fl (ordS k S (m + r))) (lt : g2 161 8 < g3 161 8) (hb : ∀ t, 0 ≤ t → t < f → srF V p A N least pl fl (ordS k S (m + t)) ≤ g3 161 8) (hc : ∀ t, 0 ≤ t → t < r → srF V p A N least pl fl (ordS k S (m + t)) < g3 161 8) (e6 : ∀ i : Nat, i < (ps ++ ordS k S (m + r)).length → g3 166 i = (ps ++ ordS k S (m + r)).getD i 0) : OE V p A N ps k S least pl fl g g3 (m + f) := by
  have le : g 161 8 ≤ g2 161 8 ∧ ∀ num, 0 ≤ num → num < m → srF V p A N least pl fl (ordS k S num) ≤ g2 161 8 := by
    rcases h with ⟨a1, a2, a3⟩ | ⟨Nn, b1, b2, b3, b4, b5, b6⟩
    · exact ⟨by omega, fun num n0 n1 => by have := a3 num n0 n1; omega⟩
    · exact ⟨by omega, b4⟩
  refine Or.inr ⟨m + r, ⟨by omega, by omega⟩, e8, by omega, fun num n0 n1 => ?_, fun num n0 n1 => ?_, e6⟩
  · by_cases c : num < m
    · have := le.2 num n0 c; omega
    · have := hb (num - m) (by omega) (by omega)
      rw [show m + (num - m) = num by omega] at this
      exact this
  · by_cases c : num < m
    · have := le.2 num n0 c; omega
    · have := hc (num - m) (by omega) (by omega)
      rw [show m + (num - m) = num by omega] at this
      exact this
theorem cn_all {S u : Int} (hs : ∀ q, 0 ≤ q → q < 6 → bt S q → q < u) (u0 : 0 ≤ u) (u1 : u ≤ 6) : cnS S u = szS S := by
  have key : ∀ n : Nat, u + n ≤ 6 → cnS S (u + n) = cnS S u := fun n => by
    induction n with
    | zero => intro _; rw [show u + ((0 : Nat) : Int) = u by omega]
    | succ n ih =>
      intro hn
      have e := cn_s S (x := u + (n : Int)) (by omega)
      rw [show u + ((n + 1 : Nat) : Int) = u + (n : Int) + 1 by omega, e, if_neg, ih (by omega)]
      intro c
      have := hs (u + (n : Int)) (by omega) (by omega) c
      omega
  have := key (6 - u).toNat (by omega)
  rw [show u + ((6 - u).toNat : Int) = 6 by omega] at this
  exact this.symm
theorem getD_app {ps : List Int} {x : Int} {i : Nat} (h : i < (ps ++ [x]).length) : (ps ++ [x]).getD i 0 = if i < ps.length then ps.getD i 0 else x := by
  rw [List.length_append] at h
  simp only [List.length_cons, List.length_nil] at h
  by_cases c : i < ps.length
  · rw [if_pos c, List.getD_eq_getElem?_getD, List.getD_eq_getElem?_getD, List.getElem?_append_left c]
  · rw [if_neg c, List.getD_eq_getElem?_getD, List.getElem?_append_right (by omega), show i - ps.length = 0 by omega]
    rfl
section OP
variable {Γ : Cfg} {l : Launch} {V : VV} {p u : Int} {A N : Int → Int}
theorem k_place (hu : UT V p u A N) (p0 : 0 ≤ p) (p1 : p < V 0) : ∀ (k : Nat) {D d b : Nat} {g : GG} {K : Ou → HP → Prop} {ps : List Int} {S U least : Int} {pl : Int → Int} {fl : Nat}, D = d + k + 6 → OD g V p u A N → 0 ≤ S → S < 64 → (∀ q, 0 ≤ q → q < 6 → bt S q → q < u) → szS S = k → 0 ≤ U → U < 64 → (∀ q, 0 ≤ q → q < u → (bt U q ↔ ¬ bt S q)) → (ps.length : Int) + k = u → (∀ i : Nat, i < ps.length → g 165 i = ps.getD i 0) → GS V p pl fl → WD g V p pl fl → (fl : Int) + snS N S 6 = zL V p → 0 ≤ least → least ≤ 9999 → g 161 8 < least → -1 ≤ g 161 8 →
    (∀ g', onlyE g g' → (∀ i : Nat, i < ps.length → g' 165 i = g 165 i) → (∀ i : Nat, i < fl → g' 164 i = g 164 i) → OE V p A N ps k S least pl fl g g' (fac k) → K (.inl vU) (stt g')) → Ct Γ l D b yX5_placeFrom mX5_placeFrom [vR 161, vR 8, vI ps.length, vI U, vI fl, vI least] (stt g) K
  | 0, D, d, b, g, K, ps, S, U, least, pl, fl, hD, od, S0, S1, hS, sz, U0, U1, hU, hps, h5, hg, hw, hfl, l0, l1, lt, bm, kk => by
    obtain ⟨E, rfl⟩ : ∃ E, D = E + 1 := ⟨d + 5, by omega⟩
    have hu6 := hu.1
    apply wpX5_placeFrom od.1.1.hi
    rw [od.2.2.1, wr_id (x := u) (by omega) (by omega), wr_id (x := (ps.length : Int)) (by omega) (by omega)]
    refine ⟨fun c => absurd c (by omega), fun _ => ⟨by decide, fun g1 e1 => ?_⟩⟩
    have c1 : ∀ a j, a ≠ 166 → g1 a j = upd2 g 161 8 least a j := fun a j ha => by
      rw [e1]
      unfold cpy
      rw [if_neg (fun h => ha h.1)]
    have c2 : ∀ i : Nat, (i : Int) < 6 → g1 166 i = g 165 i := fun i hi => by
      rw [e1]
      unfold cpy
      rw [if_pos ⟨rfl, by omega, by omega⟩, upd2_ne (by decide), show (0 : Int) + ((i : Int) - 0) = i by omega]
    have e8 : g1 161 8 = least := by rw [c1 _ _ (by decide), upd2_eq]
    refine kk g1 (fun a j a1 a2 a3 a4 a5 => ?_) (fun i _ => by rw [c1 _ _ (by decide), upd2_ne (by decide)]) (fun i _ => by rw [c1 _ _ (by decide), upd2_ne (by decide)]) (Or.inr ⟨0, ⟨by decide, show (0 : Int) < 1 by decide⟩, e8, by omega, fun num n0 n1 => ?_, fun num n0 n1 => absurd n1 (by omega), fun i hi => ?_⟩)
    · rw [c1 _ _ a4]
      exact if_neg (fun h => a5 ⟨h.2, h.1⟩)
    · rw [e8]; exact Int.le_refl _
    · have e : ps ++ ordS 0 S 0 = ps := List.append_nil ps
      rw [e] at hi ⊢
      rw [c2 i (by omega), h5 i hi]
  | k + 1, D, d, b, g, K, ps, S, U, least, pl, fl, hD, od, S0, S1, hS, sz, U0, U1, hU, hps, h5, hg, hw, hfl, l0, l1, lt, bm, kk => by
    obtain ⟨E, rfl⟩ : ∃ E, D = E + 5 := ⟨d + k + 2, by omega⟩
    have hu6 := hu.1
    have hV := od.1.2.1
    have hW := od.1.2.2.2
    have h6 := hV.1.1
    have hq := hV.pn p0 (show p < 6 by omega)
    have l163 : ln 163 = 6 := by decide +kernel
    have l165 : ln 165 = 6 := by decide +kernel
    have fp := fac_pos k
    apply wpX5_placeFrom od.1.1.hi
    rw [od.2.2.1, wr_id (x := u) (by omega) (by omega), wr_id (x := (ps.length : Int)) (by omega) (by omega)]
    refine ⟨fun _ => ?_, fun c => absurd (show (ps.length : Int) < u by omega) c⟩
    refine up_loop (P := fun i => ∀ g2, onlyE g g2 → (∀ i : Nat, i < ps.length → g2 165 i = g 165 i) → (∀ i : Nat, i < fl → g2 164 i = g 164 i) → OE V p A N ps (k + 1) S least pl fl g g2 (cnS S i * fac k) → AW Γ l mX5_placeFrom (E + 5) b 36 [vR 161, vR 8, vI ps.length, vI U, vI fl, vI least, vI i, vU, vU] [] (stt g2) K) (N := u.toNat) (fun g2 o2 q5 q4 oe => ?_) (fun i hi9 hi g2 o2 q5 q4 oe => ?_) 0 (Nat.zero_le _) g (fun _ _ _ _ _ _ _ => rfl) (fun _ _ => rfl) (fun _ _ => rfl) (Or.inl ⟨rfl, fun _ => rfl, fun num n0 n1 => ?_⟩)
    · have od2 := od.e o2
      apply wpX5_placeFrom_36 od2.1.1.hi
      rw [od2.2.2.1, wr_id (x := u) (by omega) (by omega), wr_id (x := (u.toNat : Int)) (by omega) (by omega)]
      refine ⟨fun _ => kk g2 o2 q5 q4 ?_, fun c => absurd (show u ≤ (u.toNat : Int) by omega) c⟩
      rw [Int.toNat_of_nonneg (by omega), cn_all hS (by omega) hu6.2, sz] at oe
      exact oe
    · have od2 := od.e o2
      have bU := bit_ask U0 U1 (p := i) (by omega) (by omega)
      have hUi := hU i (by omega) (by omega)
      have ec := cn_s S (x := (i : Int)) (by omega)
      have cr := cn_rng S i
      have best0 : -1 ≤ g2 161 8 := by
        rcases oe with ⟨a1, _⟩ | ⟨_, _, _, b3, _⟩
        · omega
        · omega
      have m0 : 0 ≤ cnS S i * fac k := Int.mul_nonneg cr.1 (by omega)
      have hi2 : ∀ g2 : GG, onlyE g g2 → (∀ i : Nat, i < ps.length → g2 165 i = g 165 i) → (∀ i : Nat, i < fl → g2 164 i = g 164 i) → OE V p A N ps (k + 1) S least pl fl g g2 (cnS S ((i : Int) + 1) * fac k) → ∀ v w : AV, AW Γ l mX5_placeFrom (E + 5) b 36 [vR 161, vR 8, vI ps.length, vI U, vI fl, vI least, vI ((i : Int) + 1), v, w] [] (stt g2) K := fun g2 a1 a2 a3 a4 v w => AW.weak (hi g2 a1 a2 a3 a4) (by simp [leP])
      apply wpX5_placeFrom_36 od2.1.1.hi
      rw [od2.2.2.1, wr_id (x := u) (by omega) (by omega), wr_id (x := (i : Int)) (by omega) (by omega), wr_iAnd, bU.2]
      refine ⟨fun c => absurd c (by omega), fun _ => ⟨fun c => hi2 g2 o2 q5 q4 ?_ _ _, fun c => ?_⟩⟩
      · have nS : ¬ S.toNat.testBit ((i : Int)).toNat = true := fun t => c (fun hu => (hUi.mp hu) t)
        rw [ec, if_neg nS]; exact oe
      · have bS : bt S i := Classical.byContradiction fun t => (Classical.not_not.mp c) (hUi.mpr t)
        rw [if_pos (show S.toNat.testBit ((i : Int)).toNat = true from bS)] at ec
        have ec2 : cnS S ((i : Int) + 1) * fac k = cnS S i * fac k + fac k := by rw [ec, Int.add_mul, Int.one_mul]
        obtain ⟨a0, n0, al, d0, d1⟩ := hu.2 i (by omega) (by omega)
        have r1 := rm_ok S0 S1 (show 0 ≤ (i : Int) by omega) (show (i : Int) < 6 by omega)
        have hS' : ∀ q, 0 ≤ q → q < 6 → bt (rmS S i) q → q < u := fun q q0 q1 hb => hS q q0 q1 ((r1.2.1 q q0 q1).mp hb).1
        have sn := sn_rm (N := N) S0 S1 (show 0 ≤ (i : Int) by omega) (show (i : Int) < 6 by omega) bS 6 (Nat.le_refl _)
        rw [if_pos (show (i : Int) < (6 : Nat) by omega)] at sn
        have sg := sn_ge (N := N) (S := rmS S i) (fun j j0 j1 hb => (hu.2 j j0 (hS' j j0 j1 hb)).2.1) 6 (Nat.le_refl _)
        have hw2 : WD g2 V p pl fl := fun k hk => by rw [q4 k hk]; exact hw k hk
        have ga := hg.ap hV p0 (show p < 6 by omega) hu (x := (i : Int)) (by omega) (by omega)
        have hlo := lo_rng hV hW p0 (show p < 6 by omega) hu hg (x := (i : Int)) (by omega) (by omega) (N i).toNat (Nat.le_refl _)
        refine k_least (d := E) od2 hu p0 p1 hg hw2 (by omega) (by omega) (by omega) fun g3 o3 f5 f6 f8 w3 => bI_in ?_
        have od3 := od2.e o3
        have o23 := o2.tr o3
        rw [f8, cel_in (r := 163) (by omega) (by rw [l163]; omega), (od2.2.2.2 i (by omega) (by omega)).2]
        have hlo : 0 ≤ loS V p A N pl fl i ∧ loS V p A N pl fl i ≤ 9999 := hlo
        have blk : ∀ r, 0 ≤ r → r < fac k → srF V p A N least pl fl (ordS (k + 1) S (cnS S i * fac k + r)) = srF V p A N (iMin least (loS V p A N pl fl i)) (apS A pl fl i) (fl + (N i).toNat) (ordS k (rmS S i) r) := fun r r0 r1 => by
          rw [ord_blk (by omega) (by omega) bS r0 r1]
          rfl
        have ls : 0 ≤ iMin least (loS V p A N pl fl i) ∧ iMin least (loS V p A N pl fl i) ≤ 9999 := by
          rw [iMin_id (by omega) (by omega) (by omega) (by omega)]
          omega
        have szr : szS (rmS S i) = k := by rw [sz_rm S0 S1 (by omega) (by omega) bS, sz]; omega
        generalize iMin least (loS V p A N pl fl i) = lo at ls blk ⊢
        have w4 : ∀ j : Nat, j < fl → g3 164 j = g 164 j := fun j hj => by
          rw [w3 j (by omega), hw j hj]
          have : apS A pl fl i j = pl j := by
            unfold apS
            rw [if_pos (by omega)]
          rw [this]
        rw [wr_id (x := lo) (by omega) (by omega), wr_id (x := g2 161 8) (by omega) (by
          rcases oe with ⟨a1, _⟩ | ⟨Nn, b1, b2, _⟩
          · omega
          · have oi := ord_in (k + 1) S Nn S0 S1 sz b1.1 (by
              have : fac (k + 1) = ((k : Int) + 1) * fac k := rfl
              rw [this]
              have : cnS S i ≤ (k : Int) + 1 := by
                have := cn_mono S (x := (i : Int)) (by omega) (6 - i)
                rw [show (i : Int) + ((6 - i : Nat) : Int) = 6 by omega] at this
                unfold szS at sz
                omega
              have := Int.mul_le_mul_of_nonneg_right this (show 0 ≤ fac k by omega)
              omega)
            have := srF_le hV hW p0 (show p < 6 by omega) hu (ordS (k + 1) S Nn) l0 l1 hg (fun x hx => ⟨(oi.2 x hx).1, hS x (oi.2 x hx).1 (oi.2 x hx).2.1 (oi.2 x hx).2.2⟩)
            omega)]
        refine ⟨fun le => hi2 g3 o23 (fun j hj => by rw [f5, q5 j hj]) w4 ?_ _ _, fun nle => ?_⟩
        · rw [ec2]
          refine oe.stay f8 f6 (fun r r0 r1' => ?_) (by omega)
          rw [blk r r0 r1']
          have oi := ord_in k (rmS S i) r r1.1.1 r1.1.2 szr r0 r1'
          have := srF_le hV hW p0 (show p < 6 by omega) hu (ordS k (rmS S i) r) ls.1 ls.2 ga (fun x hx => ⟨(oi.2 x hx).1, hS' x (oi.2 x hx).1 (oi.2 x hx).2.1 (oi.2 x hx).2.2⟩)
          omega
        · rw [puc_in (by omega) (by rw [l165]; omega)]
          have o4 : onlyE g3 (upd2 g3 165 ps.length i) := fun a j a1 a2 a3 a4 a5 => upd2_ne a3
          have od4 := od3.e o4
          have g48 : upd2 g3 165 ps.length i 161 8 = g2 161 8 := by rw [upd2_ne (by decide), f8]
          have g46 : ∀ j, upd2 g3 165 ps.length i 166 j = g2 166 j := fun j => by rw [upd2_ne (by decide), f6]
          have g44 : ∀ j, upd2 g3 165 ps.length i 164 j = g3 164 j := fun j => upd2_ne (by decide)
          have g45 : ∀ j : Nat, j < (ps ++ [(i : Int)]).length → upd2 g3 165 ps.length i 165 j = (ps ++ [(i : Int)]).getD j 0 := fun j hj => by
            rw [getD_app hj]
            by_cases c : j < ps.length
            · rw [if_pos c, upd2_nj (by omega), f5, q5 j c, h5 j c]
            · rw [if_neg c]
              rw [List.length_append] at hj
              simp only [List.length_cons, List.length_nil] at hj
              rw [show j = ps.length by omega, upd2_eq]
          have g45' : ∀ j : Nat, j < ps.length → upd2 g3 165 ps.length i 165 j = g 165 j := fun j hj => by rw [upd2_nj (by omega), f5, q5 j hj]
          generalize upd2 g3 165 ps.length i = g4 at o4 od4 g48 g46 g44 g45 g45' ⊢
          have elen : ((ps ++ [(i : Int)]).length : Int) = (ps.length : Int) + 1 := by rw [List.length_append]; rfl
          have efl : ((fl + (N i).toNat : Nat) : Int) = (fl : Int) + N i := by omega
          have hb := fun q (q0 : 0 ≤ q) (q1 : q < 6) => bit_or U0 U1 (show 0 ≤ (i : Int) by omega) (show (i : Int) < 6 by omega) q0 q1
          have rcv := k_place hu p0 p1 k (D := E + 4) (d := d) (b := 0) (g := g4) (K := bV (fun g5 => AW Γ l mX5_placeFrom (E + 5) b 36 [vR 161, vR 8, vI ps.length, vI U, vI fl, vI least, vI ((i : Int) + 1), vI (N i), vI lo] [] (stt g5) K) K) (ps := ps ++ [(i : Int)]) (S := rmS S i) (U := iOr U (iShl 1 i)) (least := lo) (pl := apS A pl fl i) (fl := fl + (N i).toNat) (by omega) od4 r1.1.1 r1.1.2 hS' szr (hb 0 (by decide) (by decide)).1.1 (hb 0 (by decide) (by decide)).1.2 (fun q q0 q1 => ?_) (by rw [elen]; omega) g45 ga (fun k hk => by rw [g44]; exact w3 k hk) (by rw [efl, sn]; omega) ls.1 ls.2 (by omega) (by omega) fun g5 o5 t5 t4 oe5 => bV_in (hi2 g5 (o23.tr (o4.tr o5)) (fun j hj => ?_) (fun j hj => ?_) ?_ _ _)
          · rw [elen, efl] at rcv
            exact rcv
          · rw [(hb q q0 (by omega)).2, hU q q0 q1, r1.2.1 q q0 (by omega)]
            refine ⟨fun t => ?_, fun t => ?_⟩
            · rcases t with t | t
              · exact fun t2 => t t2.1
              · exact fun t2 => t2.2 t
            · by_cases c : q = i
              · exact Or.inr c
              · exact Or.inl (fun t2 => t ⟨t2, c⟩)
          · rw [t5 j (by rw [List.length_append]; simp only [List.length_cons, List.length_nil]; omega), g45' j hj]
          · rw [t4 j (by omega), g44, w4 j hj]
          · rw [ec2]
            rcases oe5 with ⟨a1, a2, a3⟩ | ⟨Nn, b1, b2, b3, b4, b5, b6⟩
            · refine oe.stay (by omega) (fun j => by rw [a2, g46]) (fun r r0 r1' => ?_) (by omega)
              rw [blk r r0 r1']
              have := a3 r r0 r1'
              omega
            · refine oe.new m0 b1.1 b1.2 (by rw [b2, blk Nn b1.1 b1.2]) (by omega) (fun t t0 t1 => ?_) (fun t t0 t1 => ?_) (fun j hj => ?_)
              · rw [blk t t0 t1]; exact b4 t t0 t1
              · rw [blk t t0 (by omega)]; exact b5 t t0 t1
              · rw [ord_blk (by omega) (by omega) bS b1.1 b1.2] at hj ⊢
                rw [List.append_assoc] at b6
                exact b6 j hj
    · have : cnS S ((0 : Nat) : Int) = 0 := rfl
      rw [this, Int.zero_mul] at n1
      omega
end OP
