/-! A TEXT OF THE LAW: the reference's reader, a line -/
/-- lines and codes so far, in the reference's draft -/
def MZ (g : GG) (W : VV) (c k : Int) : Prop := g 171 17 = c ∧ ∀ j, ((487 ≤ j ∧ j < 487 + 4 * k) ∨ (535 ≤ j ∧ j < 535 + 2 * c)) → g 172 (849 + j) = W j
def oY (g g' : GG) : Prop := ∀ x j, ¬ (x = 171 ∧ (j = 10 ∨ j = 12 ∨ j = 13 ∨ j = 17)) → ¬ (x = 172 ∧ 1336 ≤ j) → g' x j = g x j
theorem oY.trans {g1 g2 g3 : GG} (h : oY g1 g2) (h' : oY g2 g3) : oY g1 g3 := fun x j a b => by rw [h' x j a b, h x j a b]
theorem oY.refl {g : GG} : oY g g := fun _ _ _ _ => rfl
theorem oRd.y {g g' : GG} (h : oRd g g') : oY g g' := fun x j a b => h x j (by omega)
theorem RD.oy {g g' : GG} {T : Int → Int} {L : Int} (h : RD g T L) (o : oY g g') : RD g' T L := ⟨fun i i0 i1 => by rw [o _ _ (by omega) (by omega)]; exact h.1 i i0 i1, by rw [o _ _ (by omega) (by omega)]; exact h.2.1, h.2.2⟩
section ML9
variable {Γ : Cfg} {l : Launch} {d b : Nat} {g : GG} {K : Ou → HP → Prop} {T S P N : Int → Int} {L n p e x y a : Int}
theorem oY.at (g : GG) {i x : Int} (h0 : 1336 ≤ i) : oY g (upd2 g 172 i x) := fun a j _ h2 => if_neg (fun z => h2 ⟨z.2, by omega⟩)
theorem m_lawLine (hS : TS T L n S P N) {F : Nat} (hF : 2410 ≤ F) {W : VV} {c k : Int} (k0 : 0 ≤ k) (k12 : k < 12) (c0 : 0 ≤ c) (ca : c ≤ a) (hR : RD g T L) (a0 : 0 ≤ a) (a1 : a ≤ n) (hL : LT g T L P a) (hz : MZ g W c k)
    (k1 : ∀ m z g', llR S N F a = (true, m, z) → oY g g' → AT g' T L n P m → MZ g' (adL W k c z) (c + z.2.2.1) (k + 1) → K (.inl (vI 1)) (stt g')) (kf : ∀ m z g', llR S N F a = (false, m, z) → oY g g' → g' 171 12 = P m → K (.inl (vI 0)) (stt g')) : Ct Γ l (d + 29) b yX12_readLawLine mX12_readLawLine [vR 171, vI k] (stt g) K := by
  have w0 : wr 0 = 0 := by decide +kernel
  have w1 : wr 1 = 1 := by decide +kernel
  have hn := hS.1.1
  obtain ⟨h17, hz2⟩ := hz
  have go : ∀ {A B : Prop}, A → (wr 1 = 0 → B) ∧ (¬ wr 1 = 0 → A) := fun h => ⟨fun c => absurd c (by rw [w1]; decide), fun _ => h⟩
  have no : ∀ {A B : Prop}, B → (wr 0 = 0 → B) ∧ (¬ wr 0 = 0 → A) := fun h => ⟨fun _ => h, fun c => absurd w0 c⟩
  -- behind the line's first word
  have at56 : ∀ w : Int, 0 ≤ w → w ≤ 2 → S a = 1017 + w → AT g T L n P (a + 1) → AW Γ l mX12_readLawLine (d + 29) b 56 [vR 171, vI k, vI (1336 + (4 * k))] [vI w, vI (1336 + (4 * k)), vR 172] (stt g) K := by
    intro w w0' w2 hs at1
    have c1 : 1017 ≤ S a ∧ S a ≤ 1019 := by omega
    apply wpX12_readLawLine_56
    rw [wr_id (x := 1336 + 4 * k) (by omega) (by omega), wr_id (x := 1336 + 4 * k + 1) (by omega) (by omega), wr_id (x := 1336 + 4 * k + 2) (by omega) (by omega), wr_id (x := 1336 + 4 * k + 3) (by omega) (by omega), upd2_eq, wr_id (x := w) (by omega) (by omega)]
    refine ⟨by omega, by omega, fun _ => ?_, fun z => absurd w0' z⟩
    have o1 := oY.at g (i := 1336 + 4 * k) (x := w) (by omega)
    have x1 : ∀ j, (upd2 g 172 (1336 + 4 * k) w) 171 j = g 171 j := fun j => upd2_ne (by decide)
    have v1 : ∀ j, j ≠ 1336 + 4 * k → (upd2 g 172 (1336 + 4 * k) w) 172 j = g 172 j := fun j hj => upd2_nj hj
    have u1 : (upd2 g 172 (1336 + 4 * k) w) 172 (1336 + 4 * k) = w := upd2_eq
    generalize upd2 g 172 (1336 + 4 * k) w = g1 at o1 x1 v1 u1 ⊢
    refine m_number hS (hR.oy o1) (at1.v (x1 10)) (by decide) (by decide) (by decide) (fun y1 y2 y3 g2 o2 at2 f2 => bI_in ?_) (fun y g2 o2 f2 => bI_in ?_)
    · have y : isN S N (a + 1) 0 40 := ⟨y1, y2, y3⟩
      rw [show a + 1 + 1 = a + 2 by omega] at at2
      rw [upd2_eq, wr_id (x := N (a + 1)) (by omega) (by omega)]
      refine ⟨by omega, by omega, fun _ => ⟨by omega, fun g3 e3 => ?_⟩, fun z => absurd y2 z⟩
      have t17 : upd2 g2 172 (1336 + 4 * k + 1) (N (a + 1)) 171 17 = c := by rw [upd2_ne (by decide), o2 _ _ (by omega), x1, h17]
      rw [t17] at e3
      have o4 : oY g2 (upd2 g3 171 13 0) := fun x j h1 h2 => by
        rw [show upd2 g3 171 13 0 x j = g3 x j from if_neg (fun z => h1 ⟨z.2, by omega⟩), e3]
        rw [show upd2 (upd2 g2 172 (1336 + 4 * k + 1) (N (a + 1))) 172 (1336 + 4 * k + 2) c x j = upd2 g2 172 (1336 + 4 * k + 1) (N (a + 1)) x j from if_neg (fun z => h2 ⟨z.2, by omega⟩)]
        exact if_neg (fun z => h2 ⟨z.2, by omega⟩)
      have x4 : ∀ j, j ≠ 13 → (upd2 g3 171 13 0) 171 j = g2 171 j := fun j hj => by rw [upd2_nj hj, e3, upd2_ne (by decide), upd2_ne (by decide)]
      have v4 : ∀ j, j ≠ 1336 + 4 * k + 1 → j ≠ 1336 + 4 * k + 2 → (upd2 g3 171 13 0) 172 j = g2 172 j := fun j h1 h2 => by rw [upd2_ne (by decide), e3, upd2_nj h2, upd2_nj h1]
      have u41 : (upd2 g3 171 13 0) 172 (1336 + 4 * k + 1) = N (a + 1) := by rw [upd2_ne (by decide), e3, upd2_nj (by omega), upd2_eq]
      have u42 : (upd2 g3 171 13 0) 172 (1336 + 4 * k + 2) = c := by rw [upd2_ne (by decide), e3, upd2_eq]
      have u13 : (upd2 g3 171 13 0) 171 13 = 0 := upd2_eq
      generalize upd2 g3 171 13 0 = g4 at o4 x4 v4 u41 u42 u13 ⊢
      have hR4 := ((hR.oy o1).op o2).oy o4
      have at4 : AT g4 T L n P (a + 2) := at2.v (x4 10 (by decide))
      have o04 := (o1.trans o2.y).trans o4
      have s17 : g4 171 17 = c := by rw [x4 _ (by decide), o2 _ _ (by omega), x1, h17]
      have r2 : ∀ j, g2 172 j = g1 172 j := fun j => o2 _ _ (by omega)
      -- all of the line but its last number
      have fin : ∀ (m : Int) (q : QQ) (g5 : GG), llR S N F a = (true, m, S a - 1017, N (a + 1), q) → oY g4 g5 → AT g5 T L n P m → 0 ≤ q.1 → MQ9 g5 c q → (∀ j, j < 1384 + 2 * c → g5 172 j = g4 172 j) → K (.inl (vI 1)) (stt (upd2 g5 172 (1336 + 4 * k + 3) (g5 171 17))) := by
        intro m q g5 el o5 at5 q0 mq hv5
        have e17 : g5 171 17 = c + q.1 := mq.1.1
        refine k1 m _ _ el (o04.trans (o5.trans (oY.at g5 (by omega)))) (at5.v (upd2_ne (by decide))) ⟨by rw [upd2_ne (by decide)]; exact e17, fun j hj => ?_⟩
        rw [e17]
        show upd2 g5 172 (1336 + 4 * k + 3) (c + q.1) 172 (849 + j) = adL W k c (S a - 1017, N (a + 1), q) j
        have hj : (487 ≤ j ∧ j < 487 + 4 * (k + 1)) ∨ (535 ≤ j ∧ j < 535 + 2 * (c + q.1)) := hj
        have line := adL_line (W := W) (x := (S a - 1017, N (a + 1), q)) k0 k12 c0
        unfold lwW lwN lwF lwT at line
        obtain ⟨l1, l2, l3, l4⟩ := line
        by_cases z3 : j = 487 + 4 * k + 3
        · rw [z3, l4, show 849 + (487 + 4 * k + 3) = 1336 + 4 * k + 3 by omega, upd2_eq]
        by_cases z2 : j = 487 + 4 * k + 2
        · rw [z2, l3, show 849 + (487 + 4 * k + 2) = 1336 + 4 * k + 2 by omega, upd2_nj (by omega), hv5 _ (by omega), u42]
        by_cases z1 : j = 487 + 4 * k + 1
        · rw [z1, l2, show 849 + (487 + 4 * k + 1) = 1336 + 4 * k + 1 by omega, upd2_nj (by omega), hv5 _ (by omega), u41]
        by_cases z0 : j = 487 + 4 * k
        · rw [z0, l1, show 849 + (487 + 4 * k) = 1336 + 4 * k by omega, upd2_nj (by omega), hv5 _ (by omega), v4 _ (by omega) (by omega), r2, u1]
          show w = S a - 1017
          omega
        rw [upd2_nj (by omega)]
        by_cases zc : 535 + 2 * c ≤ j
        · have cd := adL_code (W := W) (k := k) (c := c) (x := (S a - 1017, N (a + 1), q)) k12 c0 (i := (j - 535) / 2 - c) (by omega) (by show (j - 535) / 2 - c < q.1; omega)
          unfold lwC lwA at cd
          have mm := mq.2 ((j - 535) / 2 - c) (by omega) (by omega)
          by_cases par : (j - 535) % 2 = 0
          · rw [show 535 + 2 * (c + ((j - 535) / 2 - c)) = j by omega] at cd
            rw [cd.1, show 849 + j = 1384 + 2 * (c + ((j - 535) / 2 - c)) by omega]
            exact mm.1
          · rw [show 535 + 2 * (c + ((j - 535) / 2 - c)) + 1 = j by omega] at cd
            rw [cd.2, show 849 + j = 1384 + 2 * (c + ((j - 535) / 2 - c)) + 1 by omega]
            exact mm.2
        · rw [adL_old k12 c0 j (by omega), hv5 _ (by omega), v4 _ (by omega) (by omega), r2, v1 _ (by omega)]
          exact hz2 j (by omega)
      have mq4 : MQ9 g4 c qq0 := ⟨⟨by rw [s17]; show c = c + 0; omega, c0, Int.le_refl 0⟩, fun i i0 i1 => absurd i1 (by show ¬ i < 0; omega)⟩
      refine m_passes 2021 4 ⟨by decide, by decide⟩ (by decide +kernel) (by decide) hS hR4 at4 (fun z g5 o5 at5 f5 => bI_in ?_) (fun z g5 o5 at5 f5 => bI_in ?_)
      · have z : S (a + 2) = 1004 := z
        rw [w1]
        refine ⟨fun q => absurd q (by decide), fun _ => ?_⟩
        rw [show a + 2 + 1 = a + 3 by omega] at at5
        have an5 := at5.a1
        have gq0 : GQ qq0 [] := ⟨Int.le_refl 0, rfl, fun k hk t kt => by
          have : k = 0 := by have hk : (k : Int) ≤ 0 := hk; omega
          subst this
          cases kt
          decide, fun i i0 i1 => absurd i1 (by show ¬ i < 0; omega)⟩
        have hcd := cd_ok hS F 0 0 (a + 3) qq0 [] (by decide) (by decide) (by decide) (by omega) an5 (show (0 : Int) ≤ 2 * 0 + 0 by decide) gq0
        have ell : llR S N F a = ((cdR S N F 0 0 (a + 3) qq0).1, (cdR S N F 0 0 (a + 3) qq0).2.1, S a - 1017, N (a + 1), (cdR S N F 0 0 (a + 3) qq0).2.2) := by
          unfold llR
          rw [if_pos c1, if_pos y, if_pos z]
        have sub := fun K' => (m_cond (Γ := Γ) (l := l) (C := c) hS F 0 0 (a + 3) g5 qq0 [] (d + 28) 0 K' (show 6 * (n - (a + 3)) + 3 ≤ (F : Int) by omega) (by decide) (by decide) (show (0 : Int) ≤ 2 * 0 + 0 by decide) gq0 (hR4.op o5) at5 (mq4.rd o5) (by rw [o5 _ _ (by omega)]; exact u13) (by show c + 0 + 3 ≤ a + 3; omega) (show 5 + (3 + 3 * (6 - 0) + 2) ≤ ((d + 28 : Nat) : Int) by omega))
        generalize cdR S N F 0 0 (a + 3) qq0 = r1 at ell hcd sub
        refine (sub _ fun g6 o6 y6 n6 => bI_in ?_).1 rfl
        have o6y : oY g5 g6 := fun x j h1 h2 => o6 x j h1 (by omega)
        by_cases v : r1.1 = true
        · rw [if_pos v, w1]
          rw [v] at ell
          have yy := y6 v
          refine ⟨fun _ => ⟨by omega, fun g7 e7 => ?_⟩, fun q => absurd (show (1 : Int) ≠ 0 by decide) q⟩
          rw [e7]
          exact fin r1.2.1 r1.2.2 g6 ell (o5.y.trans o6y) yy.1 yy.2.1.1.2.2 yy.2.1 (fun j hj => by rw [o6 _ _ (by omega) (by omega), o5 _ _ (by omega)])
        · rw [if_neg v, w0]
          refine ⟨fun q => absurd rfl q, fun _ => kf r1.2.1 (S a - 1017, N (a + 1), r1.2.2) g6 ?_ (o04.trans (o5.y.trans o6y)) (n6 v)⟩
          rw [ell, Bool.eq_false_iff.mpr v]
      · have z : S (a + 2) ≠ 1004 := z
        rw [w0]
        refine ⟨fun _ => ⟨by omega, fun g7 e7 => ?_⟩, fun q => absurd rfl q⟩
        rw [e7]
        have ell : llR S N F a = (true, a + 2, S a - 1017, N (a + 1), qq0) := by
          unfold llR
          rw [if_pos c1, if_pos y, if_neg z]
        exact fin (a + 2) qq0 g5 ell o5.y at5 (Int.le_refl 0) (mq4.rd o5) (fun j hj => o5 _ _ (by omega))
    · rw [upd2_eq, show wr (-1) = -1 by decide +kernel]
      refine ⟨by omega, by omega, fun z => absurd z (by decide), fun _ => kf (a + 1) (0, 0, qq0) _ ?_ (o1.trans (o2.y.trans (oY.at g2 (by omega)))) (by rw [upd2_ne (by decide)]; exact f2)⟩
      unfold llR
      rw [if_pos c1, if_neg (show ¬ isN S N (a + 1) 0 40 from y)]
  apply wpX12_readLawLine
  refine m_wd 2033 17 ⟨by decide, by decide⟩ (by decide +kernel) (by decide) hS hR a0 a1 hL (fun z at1 => bI_in (go (at56 0 (by decide) (by decide) (by omega) at1))) (fun z0 => bI_in (no ?_))
  refine m_wd 2034 18 ⟨by decide, by decide⟩ (by decide +kernel) (by decide) hS hR a0 a1 hL (fun z at1 => bI_in (go (at56 1 (by decide) (by decide) (by omega) at1))) (fun z1 => bI_in (no ?_))
  refine m_wd 2035 19 ⟨by decide, by decide⟩ (by decide +kernel) (by decide) hS hR a0 a1 hL (fun z at1 => bI_in (go (at56 2 (by decide) (by decide) (by omega) at1))) (fun z2 => bI_in (no ?_))
  apply wpX12_readLawLine_56
  rw [wr_id (x := 1336 + 4 * k) (by omega) (by omega), upd2_eq, show wr (-1) = -1 by decide +kernel]
  refine ⟨by omega, by omega, fun z => absurd z (by decide), fun _ => kf a (0, 0, qq0) _ ?_ (oY.at g (by omega)) (by rw [upd2_ne (by decide)]; exact hL.1)⟩
  unfold llR
  rw [if_neg (by omega)]
end ML9
