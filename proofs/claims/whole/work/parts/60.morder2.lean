/-! AN ORDER OF WHAT IS SAID: the reference's call -/
theorem ntz_nth {S : Int} (s0 : 0 < S) (s1 : S < 64) : nthS S 0 = iNTZ S := by
  have h := List.all_eq_true.mp (show (List.range 64).all (fun s => s == 0 || decide (nthS (s : Int) 0 = iNTZ (s : Int))) = true by decide +kernel) S.toNat (List.mem_range.mpr (by omega))
  rw [Bool.or_eq_true, decide_eq_true_iff, Int.toNat_of_nonneg (by omega), beq_iff_eq] at h
  omega
theorem ntz_next {S x : Int} (s0 : 0 ≤ S) (s1 : S < 64) (x0 : 0 ≤ x) (x1 : x < 6) (hb : bt S x) (hm : cnS S x + 1 < szS S) : nthS S (cnS S x + 1) = iNTZ (iAnd S (iShl (-1) (x + 1))) := by
  have h := small_all (P := fun S x => !(S.testBit x) || !(decide (cnS (S : Int) (x : Int) + 1 < szS (S : Int))) || decide (nthS (S : Int) (cnS (S : Int) (x : Int) + 1) = iNTZ (iAnd (S : Int) (iShl (-1) ((x : Int) + 1))))) (n := 64) (m := 6) (by decide +kernel) (s := S.toNat) (p := x.toNat) (by omega) (by omega)
  rw [Bool.or_eq_true, Bool.or_eq_true, decide_eq_true_iff, Int.toNat_of_nonneg s0, Int.toNat_of_nonneg x0] at h
  unfold bt at hb
  rcases h with (e | e) | e
  · rw [hb] at e; cases e
  · rw [Bool.not_eq_true', decide_eq_false_iff_not] at e
    exact absurd hm e
  · exact e
theorem fac_le : ∀ {n : Nat}, n ≤ 6 → fac n ≤ 720 := fun {n} h => by
  have := List.all_eq_true.mp (show (List.range 7).all (fun n => decide (fac n ≤ 720)) = true by decide +kernel) n (List.mem_range.mpr (by omega))
  rw [decide_eq_true_iff] at this
  exact this
def onlyW (g g' : GG) : Prop := ∀ a j, a ≠ 184 → g' a j = g a j
section LO
variable {Γ : Cfg} {l : Launch} {V : VV} {p u : Int}
/-- the order of a number, from one place on -/
theorem m_lays {d b : Nat} {x1 : Int} (u6 : u ≤ 6) : ∀ (m : Nat) {g : GG} {K : Ou → HP → Prop} {S r i : Int}, g 171 27 = u → 0 ≤ S → S < 64 → szS S = m → 0 ≤ i → i + m = u → 0 ≤ r → r < fac m → (∀ g', onlyW g g' → (∀ j, j < i → g' 184 j = g 184 j) → (∀ t : Nat, t < m → g' 184 (i + t) = (ordS m S r).getD t 0) → K (.inl vU) (stt g')) → AW Γ l mX12_laysOrder (d + 1) b 14 [vR 171, vI x1, vI S, vI r, vI i, vU, vU, vU, vU] [] (stt g) K
  | 0, g, K, S, r, i, eu, S0, S1, sz, i0, iu, r0, r1, kk => by
    apply wpX12_laysOrder_14
    rw [eu, wr_id (x := u) (by omega) (by omega), wr_id (x := i) (by omega) (by omega)]
    exact ⟨fun _ => kk g (fun _ _ _ => rfl) (fun _ _ => rfl) (fun t ht => absurd ht (by omega)), fun c => absurd (show u ≤ i by omega) c⟩
  | m + 1, g, K, S, r, i, eu, S0, S1, sz, i0, iu, r0, r1, kk => by
    have fp := fac_pos m
    have fl := fac_le (n := m) (by omega)
    have r1' : r < ((m : Int) + 1) * fac m := r1
    have j0 : 0 ≤ r / fac m := Int.ediv_nonneg r0 (by omega)
    have j1 : r / fac m < (m : Int) + 1 := Int.ediv_lt_of_lt_mul (by omega) r1'
    have rl : r < 100000 := by
      have := fac_le (n := m + 1) (by omega)
      omega
    have nt := nth_ok (S := S) j0 (by rw [sz]; omega)
    have rm := rm_ok S0 S1 nt.1.1 nt.1.2
    have Sp : 0 < S := by
      by_cases c : S = 0
      · rw [c] at nt; exact absurd nt.2.1 (fun c => bt_0 c)
      · omega
    apply wpX12_laysOrder_14
    rw [eu, wr_id (x := u) (by omega) (by omega), wr_id (x := i) (by omega) (by omega)]
    refine ⟨fun c => absurd c (by omega), fun _ => ?_⟩
    have z9 := up_loop (P := fun t => AW Γ l mX12_laysOrder (d + 1) b 29 [vR 171, vI x1, vI S, vI r, vI i, vI (fac (t + 1)), vI ((t : Int) + 2), vU, vU] [] (stt g) K) (N := m - 1) ?_ (fun t ht9 ht => ?_) 0 (Nat.zero_le _)
    · exact z9
    · -- so many orders each first unit has
      have ef : fac (m - 1 + 1) = fac m := by
        cases m with
        | zero => rfl
        | succ m => rfl
      apply wpX12_laysOrder_29
      rw [ef, eu, wr_id (x := u - i) (by omega) (by omega), wr_id (x := ((m - 1 : Nat) : Int) + 2) (by omega) (by omega), wr_id (x := fac m) (by omega) (by omega), iDiv_nn r0 (by omega) (by omega) (by omega), iRem_nn r0 (by omega) (by omega) (by omega), ← ntz_nth Sp S1]
      refine ⟨fun _ => ⟨by omega, by omega, ?_⟩, fun c => absurd (show u - i ≤ ((m - 1 : Nat) : Int) + 2 by omega) c⟩
      -- unit by unit
      refine up_loop (P := fun t => AW Γ l mX12_laysOrder (d + 1) b 74 [vR 171, vI x1, vI S, vI (r % fac m), vI i, vI (fac m), vI (r / fac m), vI (nthS S t), vI t] [] (stt g) K) (N := (r / fac m).toNat) ?_ (fun t ht9 ht => ?_) 0 (Nat.zero_le _)
      · apply wpX12_laysOrder_74
        rw [Int.toNat_of_nonneg j0, wr_id (x := r / fac m) (by omega) (by omega), wr_id (x := i) (by omega) (by omega)]
        refine ⟨fun _ => ⟨by omega, AW.weak (L' := [vR 171, vI x1, vI (rmS S (nthS S (r / fac m))), vI (r % fac m), vI (i + 1), vU, vU, vU, vU]) ?_ (by simp [leP]; rfl)⟩, fun c => absurd (Int.le_refl _) c⟩
        refine m_lays u6 m (g := upd2 g 184 i (nthS S (r / fac m))) (by rw [upd2_ne (by decide)]; exact eu) rm.1.1 rm.1.2 (by rw [sz_rm S0 S1 nt.1.1 nt.1.2 nt.2.1, sz]; omega) (by omega) (by omega) (Int.emod_nonneg _ (by omega)) (Int.emod_lt_of_pos _ (by omega)) fun g' o f1 f2 => kk g' (fun a j ha => by rw [o a j ha, upd2_ne ha]) (fun j hj => by rw [f1 j (by omega), upd2_nj (by omega)]) (fun t ht => ?_)
        cases t with
        | zero =>
          rw [show i + ((0 : Nat) : Int) = i by omega, f1 i (by omega), upd2_eq]
          rfl
        | succ t =>
          rw [show i + ((t + 1 : Nat) : Int) = i + 1 + (t : Int) by omega, f2 t (by omega)]
          rfl
      · have nx := nth_ok (S := S) (j := (t : Int)) (by omega) (by rw [sz]; omega)
        have en := ntz_next S0 S1 nx.1.1 nx.1.2 nx.2.1 (by rw [nx.2.2, sz]; omega)
        rw [nx.2.2] at en
        apply wpX12_laysOrder_74
        rw [wr_id (x := r / fac m) (by omega) (by omega), wr_id (x := (t : Int)) (by omega) (by omega), ← en]
        exact ⟨fun c => absurd c (by omega), fun _ => ht⟩
    · have e : fac (t + 1 + 1) = fac (t + 1) * ((t : Int) + 2) := by
        show (((t + 1 : Nat) : Int) + 1) * fac (t + 1) = _
        rw [Int.mul_comm, show ((t + 1 : Nat) : Int) + 1 = (t : Int) + 2 by omega]
      rw [e, show ((t + 1 : Nat) : Int) + 2 = (t : Int) + 2 + 1 by omega] at ht
      apply wpX12_laysOrder_29
      rw [eu, wr_id (x := u - i) (by omega) (by omega), wr_id (x := (t : Int) + 2) (by omega) (by omega)]
      exact ⟨fun c => absurd c (by omega), fun _ => ht⟩
theorem m_laysOrder {d b : Nat} {g : GG} {K : Ou → HP → Prop} {num : Int} (eu : g 171 27 = u) (u0 : 0 ≤ u) (u6 : u ≤ 6) (n0 : 0 ≤ num) (n1 : num < fac u.toNat) (kk : ∀ g', onlyW g g' → (∀ t : Nat, (t : Int) < u → g' 184 t = (ordS u.toNat (pwS u - 1) num).getD t 0) → K (.inl vU) (stt g')) : Ct Γ l (d + 1) b yX12_laysOrder mX12_laysOrder [vR 171, vI num] (stt g) K := by
  have bf := bt_full u0 u6
  apply wpX12_laysOrder
  have e : iShl 1 (g 171 27) - 1 = pwS u - 1 := by rw [eu]; rfl
  rw [e]
  refine m_lays u6 u.toNat eu bf.1.1 bf.1.2 (by rw [bf.2]; omega) (by decide) (by omega) n0 n1 fun g' o _ f2 => kk g' o (fun t ht => ?_)
  have := f2 t (by omega)
  rw [Int.zero_add] at this
  exact this
def onlyY (g g' : GG) : Prop := ∀ a j, a ≠ 180 → g' a j = g a j
theorem m_puts {d b : Nat} {A N : Int → Int} (u6 : u ≤ 6) : ∀ (r : List Int) {g : GG} {K : Ou → HP → Prop} {k : Int} {fl : Nat} {pl : Int → Int}, g 171 27 = u → (∀ j, 0 ≤ j → j < u → g 182 j = A j ∧ g 183 j = N j) → 0 ≤ k → k + r.length = u → (∀ t : Nat, t < r.length → g 184 (k + t) = r.getD t 0) → (∀ x, x ∈ r → (0 ≤ x ∧ x < u) ∧ 0 ≤ N x ∧ N x ≤ 12) → (flF N fl r) ≤ 12 → (∀ t : Nat, t < fl → g 180 t = pl t) → (∀ g', onlyY g g' → (∀ t : Nat, t < flF N fl r → g' 180 t = plF A N pl fl r t) → K (.inl vU) (stt g')) → AW Γ l mX12_putsInOrder d b 4 [vR 171, vI fl, vI k, vU] [] (stt g) K
  | [], g, K, k, fl, pl, eu, hT, k0, ku, hr, hx, h12, hp, kk => by
    have ku : k + 0 = u := ku
    apply wpX12_putsInOrder_4
    rw [eu, wr_id (x := u) (by omega) (by omega), wr_id (x := k) (by omega) (by omega)]
    exact ⟨fun _ => kk g (fun _ _ _ => rfl) hp, fun c => absurd (show u ≤ k by omega) c⟩
  | x :: r, g, K, k, fl, pl, eu, hT, k0, ku, hr, hx, h12, hp, kk => by
    have ku : k + ((r.length + 1 : Nat) : Int) = u := ku
    obtain ⟨⟨x0, x1⟩, n0, n12⟩ := hx x List.mem_cons_self
    have le : fl + (N x).toNat ≤ flF N fl (x :: r) := by
      have : ∀ (r : List Int) (f : Nat), f ≤ flF N f r := fun r => by
        induction r with
        | nil => exact fun f => Nat.le_refl _
        | cons y r ih2 => exact fun f => Nat.le_trans (Nat.le_add_right _ _) (ih2 _)
      exact this r _
    have ek : g 184 k = x := by
      have := hr 0 (Nat.succ_pos _)
      rw [show k + ((0 : Nat) : Int) = k by omega] at this
      exact this
    apply wpX12_putsInOrder_4
    rw [eu, wr_id (x := u) (by omega) (by omega), wr_id (x := k) (by omega) (by omega)]
    refine ⟨fun c => absurd c (by omega), fun _ => ?_⟩
    refine up_loop (P := fun i => ∀ g1, onlyY g g1 → (∀ t : Nat, t < fl + i → g1 180 t = apS A pl fl x t) → AW Γ l mX12_putsInOrder d b 14 [vR 171, vI ((fl : Int) + i), vI k, vI i] [] (stt g1) K) (N := (N x).toNat) (fun g1 o1 f1 => ?_) (fun i hi9 hi g1 o1 f1 => ?_) 0 (Nat.zero_le _) g (fun _ _ _ => rfl) (fun t ht => ?_)
    · have ek1 : g1 184 k = x := by rw [o1 _ _ (by decide), ek]
      have en1 : g1 183 x = N x := by rw [o1 _ _ (by decide)]; exact (hT x x0 x1).2
      apply wpX12_putsInOrder_14
      rw [wr_id (x := k) (by omega) (by omega), ek1, wr_id (x := x) (by omega) (by omega), en1, wr_id (x := N x) (by omega) (by omega), wr_id (x := ((N x).toNat : Int)) (by omega) (by omega)]
      refine ⟨by omega, by omega, fun _ => AW.weak (L' := [vR 171, vI ((fl + (N x).toNat : Nat) : Int), vI (k + 1), vU]) ?_ (by simp [leP]), fun c => absurd (show N x ≤ ((N x).toNat : Int) by omega) c⟩
      refine m_puts u6 r (by rw [o1 _ _ (by decide)]; exact eu) (fun j j0 j1 => by rw [o1 _ _ (by decide), o1 _ _ (by decide)]; exact hT j j0 j1) (by omega) (by omega) (fun t ht => ?_) (fun y hy => hx y (List.mem_cons_of_mem _ hy)) h12 f1 fun g' o' f' => kk g' (fun a j ha => by rw [o' a j ha, o1 a j ha]) f'
      rw [o1 _ _ (by decide)]
      have := hr (t + 1) (Nat.succ_lt_succ ht)
      rw [show k + ((t + 1 : Nat) : Int) = k + 1 + (t : Int) by omega] at this
      rw [this]; rfl
    · have ek1 : g1 184 k = x := by rw [o1 _ _ (by decide), ek]
      have en1 : g1 183 x = N x := by rw [o1 _ _ (by decide)]; exact (hT x x0 x1).2
      have ea1 : g1 182 x = A x := by rw [o1 _ _ (by decide)]; exact (hT x x0 x1).1
      rw [show (fl : Int) + ((i + 1 : Nat) : Int) = (fl : Int) + i + 1 by omega] at hi
      apply wpX12_putsInOrder_14
      rw [wr_id (x := k) (by omega) (by omega), ek1, wr_id (x := x) (by omega) (by omega), en1, ea1, wr_id (x := N x) (by omega) (by omega), wr_id (x := (i : Int)) (by omega) (by omega), wr_id (x := (fl : Int) + i) (by omega) (by omega)]
      refine ⟨by omega, by omega, fun c => absurd c (by omega), fun _ => ⟨by omega, by omega, by omega, fun g2 e2 => hi g2 (fun a j ha => by rw [e2, upd2_ne ha, o1 a j ha]) (fun t ht => ?_)⟩⟩
      by_cases c : t = fl + i
      · rw [e2, show (t : Int) = (fl : Int) + i by omega, upd2_eq]
        unfold apS
        rw [if_neg (by omega)]
        omega
      · rw [e2, upd2_nj (by omega)]
        exact f1 t (by omega)
    · rw [hp t (by omega)]
      unfold apS
      rw [if_pos (by omega)]
theorem m_orders {d b : Nat} {g : GG} {K : Ou → HP → Prop} (eu : g 171 27 = u) (u1 : 1 ≤ u) (u6 : u ≤ 6) (kk : K (.inl (vI (fac u.toNat))) (stt g)) : Ct Γ l d b yX12_orders mX12_orders [vR 171] (stt g) K := by
  apply wpX12_orders
  refine up_loop (P := fun t => AW Γ l mX12_orders d b 4 [vR 171, vI (fac (t + 1)), vI ((t : Int) + 2)] [] (stt g) K) (N := u.toNat - 1) ?_ (fun t ht9 ht => ?_) 0 (Nat.zero_le _)
  · apply wpX12_orders_4
    rw [eu, wr_id (x := u) (by omega) (by omega), wr_id (x := ((u.toNat - 1 : Nat) : Int) + 2) (by omega) (by omega), show u.toNat - 1 + 1 = u.toNat by omega]
    exact ⟨fun _ => kk, fun c => absurd (show u < ((u.toNat - 1 : Nat) : Int) + 2 by omega) c⟩
  · have e : fac (t + 1 + 1) = fac (t + 1) * ((t : Int) + 2) := by
      show (((t + 1 : Nat) : Int) + 1) * fac (t + 1) = _
      rw [Int.mul_comm, show ((t + 1 : Nat) : Int) + 1 = (t : Int) + 2 by omega]
    rw [e, show ((t + 1 : Nat) : Int) + 2 = (t : Int) + 2 + 1 by omega] at ht
    apply wpX12_orders_4
    rw [eu, wr_id (x := u) (by omega) (by omega), wr_id (x := (t : Int) + 2) (by omega) (by omega)]
    exact ⟨fun c => absurd c (by omega), fun _ => ht⟩
theorem onlyW.x {g g' : GG} (h : onlyW g g') : onlyX g g' := fun a j _ a2 _ => h a j (by omega)
theorem onlyY.x {g g' : GG} (h : onlyY g g') : onlyX g g' := fun a j _ a2 _ => h a j (by omega)
theorem onlyR.x {g g' : GG} (h : onlyR g g') : onlyX g g' := fun a j a1 _ _ => h a j a1
/-- what is sure along an order, asked of the reference -/
theorem m_sureO {d b : Nat} {g : GG} {K K0 : Ou → HP → Prop} {num : Int} (hv : g 172 = V) (hV : WF V) (hW : okLaw V) (p0 : 0 ≤ p) (p1 : p < V 0) (u6 : uU V p ≤ 6) (um : UM g (unF (zW V p) (zL V p).toNat)) (n0 : 0 ≤ num) (n1 : num < fac (uU V p).toNat) (kk : ∀ g', onlyX g g' → UM g' (unF (zW V p) (zL V p).toNat) → K (.inl (vI (srO V p num))) (stt g')) :
    Ct Γ l (d + 8) 0 yX12_laysOrder mX12_laysOrder [vR 171, vI num] (stt g) (bV (fun g3 => Ct Γ l (d + 8) 0 yX12_putsInOrder mX12_putsInOrder [vR 171] (stt g3) (bV (fun g4 => Ct Γ l (d + 8) 0 yX12_sureOf mX12_sureOf [vR 171, vI p] (stt g4) K) K0)) K0) := by
  have h6 := hV.1.1
  have hq := hV.pn p0 (show p < 6 by omega)
  have hl := (hq.2.2.2.2.2 p1).1
  obtain ⟨ut, sn⟩ := UT_of hV p0 p1 u6
  have ut : UT V p (uU V p) (uA V p) (uN V p) := ut
  have sn : snS (uN V p) (pwS (uU V p) - 1) 6 = zL V p := sn
  have hu := ut.1
  have bf := bt_full (n := uU V p) (by omega) u6
  have pw := pw_ok (n := uU V p) (by omega) u6
  have oi := ord_in (uU V p).toNat (pwS (uU V p) - 1) num bf.1.1 bf.1.2 (by rw [bf.2]; omega) n0 n1
  have hin : ∀ x, x ∈ ordS (uU V p).toNat (pwS (uU V p) - 1) num → 0 ≤ x ∧ x < uU V p := fun x hx => ⟨(oi.2 x hx).1, (pw.2.1 x (oi.2 x hx).1 (oi.2 x hx).2.1).mp (oi.2 x hx).2.2⟩
  have fl := flF_eq (N := uN V p) (r := ordS (uU V p).toNat (pwS (uU V p) - 1) num) (fl := 0) (fun x hx => by have := (ut.2 x (hin x hx).1 (hin x hx).2).2.1; omega)
  rw [sumL_ord (uU V p).toNat (pwS (uU V p) - 1) num bf.1.1 bf.1.2 (by rw [bf.2]; omega) n0 n1, sn] at fl
  have g0' : GS V p (fun _ => 0) 0 := ⟨fun k hk => absurd hk (by omega), fun k hk => by
    rw [show k = 0 by omega]
    show (0 : Int) ≤ 0 ∧ (0 : Int) ≤ 3
    decide, rfl⟩
  have gs := GS.pl hV p0 (show p < 6 by omega) ut (r := ordS (uU V p).toNat (pwS (uU V p) - 1) num) g0' hin
  have e7 : g 171 27 = uU V p := um.1
  refine m_laysOrder e7 (by omega) u6 n0 n1 fun g1 o1 f1 => bV_in ?_
  have um1 : UM g1 (unF (zW V p) (zL V p).toNat) := ⟨by rw [o1 _ _ (by decide)]; exact um.1, fun j j0 j1 => by rw [o1 _ _ (by decide), o1 _ _ (by decide)]; exact um.2 j j0 j1⟩
  apply wpX12_putsInOrder
  refine m_puts (A := uA V p) (N := uN V p) u6 (ordS (uU V p).toNat (pwS (uU V p) - 1) num) (k := 0) (fl := 0) (pl := fun _ => 0) um1.1 um1.2 (by decide) (by rw [oi.1]; omega) (fun t ht => ?_) (fun x hx => ⟨hin x hx, by have := ut.2 x (hin x hx).1 (hin x hx).2; omega⟩) (by omega) (fun t ht => absurd ht (by omega)) fun g2 o2 f2 => bV_in ?_
  · rw [Int.zero_add]
    exact f1 t (by rw [oi.1] at ht; omega)
  · have um2 : UM g2 (unF (zW V p) (zL V p).toNat) := ⟨by rw [o2 _ _ (by decide)]; exact um1.1, fun j j0 j1 => by rw [o2 _ _ (by decide), o2 _ _ (by decide)]; exact um1.2 j j0 j1⟩
    have o12 : onlyX g g2 := o1.x.tr o2.x
    have efl : flF (uN V p) 0 (ordS (uU V p).toNat (pwS (uU V p) - 1) num) = (zL V p).toNat := by omega
    rw [efl] at f2 gs
    refine m_sureP (pl := plF (uA V p) (uN V p) (fun _ => 0) 0 (ordS (uU V p).toNat (pwS (uU V p) - 1) num)) (f := fun k => zW V p (plF (uA V p) (uN V p) (fun _ => 0) 0 (ordS (uU V p).toNat (pwS (uU V p) - 1) num) k)) (o12.v.trans hv) hV hW p0 (by omega) (fun k hk => ?_) (fun k hk => gs.2.1 k (by omega)) fun g3 o3 => ?_
    · have := gs.1 k (by omega)
      exact ⟨by omega, f2 k (by omega), rfl⟩
    · have es : svP V p (fun k => zW V p (plF (uA V p) (uN V p) (fun _ => 0) 0 (ordS (uU V p).toNat (pwS (uU V p) - 1) num) k)) (zL V p).toNat = srO V p num := by
        unfold srO
        rw [sr_fd hV hW p0 (show p < 6 by omega) ut (by decide) (by decide) g0' hin, efl, Nat.sub_zero]
        have ff := (fd_far (h := fun i => wP V p (fun k => zW V p (plF (uA V p) (uN V p) (fun _ => 0) 0 (ordS (uU V p).toNat (pwS (uU V p) - 1) num) k)) (i + 1)) (n := (zL V p).toNat) (fun i hi => wP_rng hV hW p0 (show p < 6 by omega) (n := i + 1) (fun k hk => gs.1 k (by omega)) (fun k hk => gs.2.1 k (by omega))) (a := 1000000) (b := 9999) (by decide) (by decide) (by decide) (by decide) (zL V p).toNat (by omega) (Nat.le_refl _)).1
        unfold svP
        rw [ff]
        refine fd_ext fun y i _ => ?_
        rw [show ((0 : Nat) : Int) + (i : Int) + 1 = (i : Int) + 1 by omega]
      rw [es]
      refine kk g3 (o12.tr o3.x) ⟨?_, fun j j0 j1 => ?_⟩
      · rw [o3 _ _ (by unfold rW; omega)]; exact um2.1
      · rw [o3 _ _ (by unfold rW; omega), o3 _ _ (by unfold rW; omega)]; exact um2.2 j j0 j1
theorem srO_rng (hV : WF V) (hW : okLaw V) (p0 : 0 ≤ p) (p1 : p < V 0) (u6 : uU V p ≤ 6) {num : Int} (n0 : 0 ≤ num) (n1 : num < fac (uU V p).toNat) : 0 ≤ srO V p num ∧ srO V p num ≤ 9999 := by
  have h6 := hV.1.1
  obtain ⟨ut, sn⟩ := UT_of hV p0 p1 u6
  have ut : UT V p (uU V p) (uA V p) (uN V p) := ut
  have hu := ut.1
  have bf := bt_full (n := uU V p) (by omega) u6
  have pw := pw_ok (n := uU V p) (by omega) u6
  have oi := ord_in (uU V p).toNat (pwS (uU V p) - 1) num bf.1.1 bf.1.2 (by rw [bf.2]; omega) n0 n1
  exact srF_le hV hW p0 (show p < 6 by omega) ut _ (by decide) (by decide) ⟨fun k hk => absurd hk (by omega), fun k hk => by
    rw [show k = 0 by omega]
    show (0 : Int) ≤ 0 ∧ (0 : Int) ≤ 3
    decide, rfl⟩ (fun x hx => ⟨(oi.2 x hx).1, (pw.2.1 x (oi.2 x hx).1 (oi.2 x hx).2.1).mp (oi.2 x hx).2.2⟩)
theorem m_order {d b : Nat} {g : GG} {K : Ou → HP → Prop} {k : Int} (hv : g 172 = V) (hV : WF V) (hW : okLaw V) (hp : wr p = p) (hk : wr k = k) (k0 : ¬ (0 ≤ p ∧ p < V 0) → ∀ g', kM g g' → g' 171 0 = 1 → K (.inl (vI 0)) (stt g')) (k1 : 0 ≤ p → p < V 0 → uU V p ≤ 6 → ∀ g' Nn, kM g g' → g' 171 0 = 0 → bestO V p Nn → K (.inl (vI (oAns V p k Nn))) (stt g')) (k2 : 0 ≤ p → p < V 0 → ¬ uU V p ≤ 6 → ∀ g', kM g g' → g' 171 0 = 0 → K (.inl (vI (-1))) (stt g')) : Ct Γ l (d + 9) b yX12_order mX12_order [vR 171, vI p, vI k] (stt g) K := by
  have h6 := hV.1.1
  apply wpX12_order
  have v1 := th_v (c := 0) hv
  rw [pcond hV v1 hp]
  have m1 : kM g (upd2 g 171 0 0) := kM.th
  have z1 : upd2 g 171 0 0 171 0 = 0 := th_z
  generalize upd2 g 171 0 0 = g1 at v1 m1 z1 ⊢
  refine ⟨fun z => k0 z _ (m1.tr kM.th) th_z, fun z => ?_⟩
  obtain ⟨p0, p1⟩ := Decidable.not_not.mp z
  have hq := hV.pn p0 (show p < 6 by omega)
  have hl := (hq.2.2.2.2.2 p1).1
  have ui := (UI_all (zW V p) (zL V p).toNat).1
  have hu12 : 0 ≤ uU V p ∧ uU V p ≤ 12 ∧ 1 ≤ uU V p := ⟨ui.1, by have := ui.2.1; unfold uU; omega, ui.2.2 (by omega)⟩
  refine m_units v1 hV p0 p1 fun g2 o2 um2 => bV_in ?_
  have e7 : g2 171 27 = uU V p := um2.1
  rw [e7, wr_id (x := uU V p) (by omega) (by omega)]
  refine ⟨fun c => ?_, fun c => k2 p0 p1 c g2 (m1.tr o2.k) (by rw [o2.z, z1])⟩
  have fp := fac_pos (uU V p).toNat
  have fl := fac_le (n := (uU V p).toNat) (by omega)
  have sr := fun {num : Int} => srO_rng (num := num) hV hW p0 p1 c
  refine up_loop (P := fun i => ∀ (g3 : GG) (y t : Int), onlyX g1 g3 → UM g3 (unF (zW V p) (zL V p).toNat) → ((i = 0 ∧ y = 0 ∧ t = -1) ∨ ((0 ≤ y ∧ y < (i : Int)) ∧ t = srO V p y ∧ (∀ num, 0 ≤ num → num < (i : Int) → srO V p num ≤ t) ∧ ∀ num, 0 ≤ num → num < y → srO V p num < t)) → AW Γ l mX12_order (d + 9) b 44 [vR 171, vI p, vI k, vI y, vI t, vI i, vU] [] (stt g3) K) (N := (fac (uU V p).toNat).toNat) (fun g3 y t o3 um3 inv => ?_) (fun i hi9 hi g3 y t o3 um3 inv => ?_) 0 (Nat.zero_le _) g2 0 (-1) o2 um2 (Or.inl ⟨rfl, rfl, rfl⟩)
  · rcases inv with ⟨e, _⟩ | ⟨y01, et, h1, h2⟩
    · omega
    · have e73 : g3 171 27 = uU V p := um3.1
      have bo : bestO V p y := ⟨by omega, fun num n0 n1 => by rw [← et]; exact h1 num n0 (by omega), fun num n0 n1 => by rw [← et]; exact h2 num n0 n1⟩
      have ka := k1 p0 p1 c
      unfold oAns at ka
      apply wpX12_order_44
      refine m_orders e73 hu12.2.2 c (bI_in ?_)
      rw [wr_id (x := fac (uU V p).toNat) (by omega) (by omega), wr_id (x := ((fac (uU V p).toNat).toNat : Int)) (by omega) (by omega), hk]
      refine ⟨fun _ => ⟨fun z => m_laysOrder e73 hu12.1 c y01.1 (by omega) fun g4 o4 f4 => bV_in ?_, fun z => ?_⟩, fun z => absurd (show fac (uU V p).toNat ≤ ((fac (uU V p).toNat).toNat : Int) by omega) z⟩
      · have e74 : g4 171 27 = uU V p := by rw [o4 _ _ (by decide), e73]
        have ka := ka g4 y (m1.tr (o3.tr o4.x).k) (by rw [(o3.tr o4.x).z, z1]) bo
        rw [if_neg z] at ka
        rw [e74, wr_id (x := uU V p - 1) (by omega) (by omega)]
        refine ⟨fun z2 => ⟨by omega, ?_⟩, fun z2 => ?_⟩
        · rw [if_pos (by omega)] at ka
          have := f4 k.toNat (by omega)
          rw [Int.toNat_of_nonneg (by omega)] at this
          rw [this]; exact ka
        · rw [if_neg (by omega)] at ka; exact ka
      · have ka := ka g3 y (m1.tr o3.k) (by rw [o3.z, z1]) bo
        rw [if_pos (Decidable.not_not.mp z)] at ka
        rw [et]; exact ka
  · have e73 : g3 171 27 = uU V p := um3.1
    have ri := sr (num := (i : Int)) (by omega) (by omega)
    have rt : -1 ≤ t ∧ t ≤ 9999 := by
      rcases inv with ⟨_, _, e⟩ | ⟨y01, et, _, _⟩
      · omega
      · have := sr (num := y) y01.1 (by omega); omega
    apply wpX12_order_44
    refine m_orders e73 hu12.2.2 c (bI_in ?_)
    rw [wr_id (x := fac (uU V p).toNat) (by omega) (by omega), wr_id (x := (i : Int)) (by omega) (by omega)]
    refine ⟨fun z => absurd z (by omega), fun _ => m_sureO (d := d) (b := b) (num := (i : Int)) (o3.v.trans v1) hV hW p0 p1 c um3 (by omega) (by omega) fun g4 o4 um4 => bI_in ?_⟩
    rw [wr_id (x := srO V p i) (by omega) (by omega), wr_id (x := t) (by omega) (by omega), iMax_id (by omega) (by omega) (by omega) (by omega)]
    refine ⟨fun z => ?_, fun z => ?_⟩
    · rw [if_neg (by omega)]
      refine AW.weak (hi g4 y t (o3.tr o4) um4 ?_) (by simp [leP])
      rcases inv with ⟨_, _, e⟩ | ⟨y01, et, h1, h2⟩
      · omega
      · refine Or.inr ⟨by omega, et, fun num n0 n1 => ?_, h2⟩
        by_cases q : num = i
        · rw [q]; exact z
        · exact h1 num n0 (by omega)
    · rw [if_pos (by omega)]
      refine AW.weak (hi g4 i (srO V p i) (o3.tr o4) um4 (Or.inr ⟨by omega, rfl, fun num n0 n1 => ?_, fun num n0 n1 => ?_⟩)) (by simp [leP])
      · by_cases q : num = i
        · rw [q]; exact Int.le_refl _
        · rcases inv with ⟨e, _⟩ | ⟨y01, et, h1, h2⟩
          · omega
          · have := h1 num n0 (by omega); omega
      · rcases inv with ⟨e, _⟩ | ⟨y01, et, h1, h2⟩
        · omega
        · have := h1 num n0 (by omega); omega
end LO
