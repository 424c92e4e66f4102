/-! A TEXT OF THE HILLS: the reference's reader, lines -/
section MI
variable {Γ : Cfg} {l : Launch} {d b : Nat} {g : GG} {K : Ou → HP → Prop} {T S P N : Int → Int} {L n p e x y a lo hi : Int} {V : VV}
theorem m_toldB (t : Int) (i : Nat) (s x : Int) (hs : s = 1000 + (i : Int)) (ht : SS t) (hti : ssB t = ssB (sgS (1000 + i))) (hi' : i < 30) (hS : TS T L n S P N) (hR : RD g T L) (hA : AT g T L n P a) (l0 : 0 ≤ lo) (h9 : hi ≤ 999) (lh : lo ≤ hi) (k1 : S a = s → isN S N (a + 1) lo hi → ∀ g', oRd g g' → AT g' T L n P (a + 2) → K (.inl (vI (N (a + 1)))) (stt g')) (k2 : S a = s → ¬ isN S N (a + 1) lo hi → ∀ g', oRd g g' → g' 171 12 = P (a + 1) → K (.inl (vI 1000000)) (stt g')) (k0 : S a ≠ s → ∀ g', oRd g g' → AT g' T L n P a → K (.inl (vI x)) (stt g')) : Ct Γ l (d + 6) b yX12_told mX12_told [vR 171, vR t, vI lo, vI hi, vI x] (stt g) K := by
  have w0 : wr 0 = 0 := by decide +kernel
  have w1 : wr 1 = 1 := by decide +kernel
  subst hs
  apply wpX12_told ht
  refine m_passes t i ht hti hi' hS hR hA (fun z g1 o1 at1 f1 => bI_in ?_) (fun z g1 o1 at1 f1 => bI_in ?_)
  · rw [w1]
    refine ⟨fun _ => ?_, fun q => absurd (show (1 : Int) ≠ 0 by decide) q⟩
    refine m_number hS (hR.op o1) at1 l0 h9 lh (fun y1 y2 y3 g2 o2 at2 f2 => bI_in ?_) (fun y g2 o2 f2 => bI_in ?_)
    · rw [wr_id (x := N (a + 1)) (by omega) (by omega)]
      rw [show a + 1 + 1 = a + 2 by omega] at at2
      exact ⟨fun _ => k1 z ⟨y1, y2, y3⟩ g2 (o1.trans o2) at2, fun q => absurd (show 0 ≤ N (a + 1) by omega) q⟩
    · rw [show wr (-1) = -1 by decide +kernel]
      exact ⟨fun q => absurd q (by decide), fun _ => k2 z y g2 (o1.trans o2) f2⟩
  · rw [w0]
    exact ⟨fun q => absurd rfl q, fun _ => k0 z g1 o1 at1⟩
theorem m_person9 (hS : TS T L n S P N) (hR : RD g T L) (hA : AT g T L n P (a + 1)) (hL : LT g T L P a) (hv : g 172 = V) (v0 : 0 ≤ V 0) (v6 : V 0 ≤ 6) (hz : ZP V) (kk : MH g T L n P (oaR S N V a) K) : Ct Γ l (d + 8) b yX12_readPerson mX12_readPerson [vR 171] (stt g) K := by
  have w0 : wr 0 = 0 := by decide +kernel
  have w1 : wr 1 = 1 := by decide +kernel
  apply wpX12_readPerson
  rw [hv, wr_id (x := V 0) (by omega) (by omega)]
  refine ⟨fun c => ?_, fun c => ?_⟩
  · have c6 : V 0 < 6 := by omega
    refine up_loop (P := fun i => ∀ g', g' 172 = V → oW g g' → (∀ j, g' 171 j = g 171 j) → AW Γ l mX12_readPerson (d + 8) b 15 [vR 171, vI (V 0), vI (i : Int), vU] [] (stt g') K) (N := 29) (fun g' v' o' r' => ?_) (fun i hi9 hi g' v' o' r' => ?_) 0 (Nat.zero_le _) g hv oW.refl (fun _ => rfl)
    · apply wpX12_readPerson_15
      refine ⟨fun _ => ?_, fun q => absurd (show 29 ≤ wr ((29 : Nat) : Int) by decide +kernel) q⟩
      have at1 : AT g' T L n P (a + 1) := hA.v (r' 10)
      have hR1 := hR.ow o'
      have kk := kk.up o'
      have oa := oa_cases (S := S) (N := N) (V := V) (a := a)
      have nf := oa_nf (S := S) (N := N) (V := V) (a := a) v0 hz
      have hwf := wd_fr (S := S) (N := N) (p := V 0) 12 V (a + 1) 0 0 (by decide) (by decide)
      apply wpX12_readOath
      have o2 : oW g' (upd2 g' 171 16 0) := fun x j h1 h2 => if_neg (fun z => h1 ⟨z.2, by omega⟩)
      have e16 : upd2 g' 171 16 0 171 16 = 0 := upd2_eq
      have v2 : (upd2 g' 171 16 0) 172 = V := by rw [← v']; exact funext fun j => upd2_ne (by decide)
      have at2 : AT (upd2 g' 171 16 0) T L n P (a + 1) := at1.v (upd2_nj (by decide))
      have hR2 := hR1.ow o2
      have kk := kk.up o2
      generalize upd2 g' 171 16 0 = g2 at *
      refine m_let hS hR2 at2 fun g3 o3 l3 => bV_in ?_
      have kk := kk.up o3.w
      have hR3 := hR2.op o3
      refine m_kindRead hS hR3 at2.a0 at2.a1 l3 fun h3 => bI_in ?_
      have sk := sgK_any (S (a + 1))
      rw [wr_id (x := sgK (S (a + 1))) (by omega) (by omega)]
      have no : ∀ r : RR, r = wdR S N (V 0) 12 V (a + 1) 0 0 → ¬ r.1 = true → oaR S N V a = r := fun r er hr => by
        unfold oaR
        rw [if_pos c6]
        simp only
        rw [← er, if_neg hr]
      refine ⟨fun hk => ?_, fun hk => ?_⟩
      · refine m_words hS v0 c6 12 V g3 (a + 1) 0 0 (by decide) (by decide) hR3 at2.a0 at2.a1 ?_ (by rw [o3 _ _ (by omega)]; exact e16) l3 h3 (by decide) (by decide) (fun _ => by omega) ?_
        · rw [o3.v, v2]
          funext j
          by_cases q : j = 12 + 29 * V 0 + 0
          · rw [q, upV_eq]; exact hz _ (Int.le_refl _) c6 0 (by decide) (by decide)
          · rw [upV_ne q]
        generalize er : wdR S N (V 0) 12 V (a + 1) 0 0 = r at *
        intro g4 o4 y4 n4
        by_cases z : r.1 = true
        · obtain ⟨hv4, at4⟩ := y4 z
          have hR4 := hR3.ow o4
          have kk := kk.up o4
          rw [if_pos z]
          refine bI_in ?_
          rw [w1]
          refine ⟨fun _ => ?_, fun q => absurd (show (1 : Int) ≠ 0 by decide) q⟩
          -- what is told of breath
          have h3 := hwf (12 + 29 * V 0 + 3) (by omega)
          have h4 := hwf (12 + 29 * V 0 + 4) (by omega)
          rw [hz _ (Int.le_refl _) c6 3 (by decide) (by decide)] at h3
          rw [hz _ (Int.le_refl _) c6 4 (by decide) (by decide)] at h4
          have st : ∀ (br m : Int) (g5 : GG), 1 ≤ br → br ≤ 9 → (br, m) = brS S N r.2.1 → (S r.2.1 = 1011 → isN S N (r.2.1 + 1) 1 9) → oRd g4 g5 → AT g5 T L n P m → (¬ wr br = 1000000 → Ct Γ l (d + 7) 0 yX12_told mX12_told [vR 171, vR 2028, vI 0, vI 9, vI 0] (stt g5) (bI (fun v3 g3 => (¬ wr v3 = 1000000 → (0 ≤ wr (12 + 29 * V 0 + 1) ∧ wr (12 + 29 * V 0 + 1) < 2184) ∧ (∀ g4 : GG, g4 = upd2 g3 172 (wr (12 + 29 * V 0 + 1)) br → (0 ≤ wr (12 + 29 * V 0 + 2) ∧ wr (12 + 29 * V 0 + 2) < 2184) ∧ (∀ g5 : GG, g5 = upd2 g4 172 (wr (12 + 29 * V 0 + 2)) v3 → K (.inl (vI 1)) (stt (upd2 g5 172 0 ((g5 172 0) + 1)))))) ∧ (¬ (¬ wr v3 = 1000000) → K (.inl (vI 0)) (stt g3))) K)) ∧ (¬ (¬ wr br = 1000000) → K (.inl (vI 0)) (stt g5)) := by
            intro br m g5 b1 b9 eb hb o5 at5
            have eb1 : (brS S N r.2.1).1 = br := by rw [← eb]
            have eb2 : (brS S N r.2.1).2 = m := by rw [← eb]
            rw [wr_id (x := br) (by omega) (by omega), wr_id (x := 12 + 29 * V 0 + 1) (by omega) (by omega), wr_id (x := 12 + 29 * V 0 + 2) (by omega) (by omega)]
            have hR5 := hR4.op o5
            have kk := kk.up o5.w
            have v5 : g5 172 = r.2.2 := by rw [o5.v]; exact hv4
            have fin : ∀ (gu m2 : Int) (g6 : GG), 0 ≤ gu → gu ≤ 9 → (gu, m2) = guS S N m → (S m = 1012 → isN S N (m + 1) 0 9) → oRd g5 g6 → AT g6 T L n P m2 → (¬ wr gu = 1000000 → (0 ≤ 12 + 29 * V 0 + 1 ∧ 12 + 29 * V 0 + 1 < 2184) ∧ (∀ g4 : GG, g4 = upd2 g6 172 (12 + 29 * V 0 + 1) br → (0 ≤ 12 + 29 * V 0 + 2 ∧ 12 + 29 * V 0 + 2 < 2184) ∧ (∀ g5 : GG, g5 = upd2 g4 172 (12 + 29 * V 0 + 2) gu → K (.inl (vI 1)) (stt (upd2 g5 172 0 ((g5 172 0) + 1)))))) ∧ (¬ (¬ wr gu = 1000000) → K (.inl (vI 0)) (stt g6)) := by
              intro gu m2 g6 u0 u9 eg hg o6 at6
              have eg1 : (guS S N m).1 = gu := by rw [← eg]
              have eg2 : (guS S N m).2 = m2 := by rw [← eg]
              rw [wr_id (x := gu) (by omega) (by omega)]
              refine ⟨fun _ => ⟨by omega, fun g7 e7 => ⟨by omega, fun g8 e8 => ?_⟩⟩, fun q => absurd (by omega) q⟩
              have nf2 := ex_nf (S := S) (N := N) (W := r.2.2) (p := V 0) (a := r.2.1) v0 h3 h4 hb (by rw [eb2]; exact hg)
              rw [eb1, eb2, eg1, eg2] at nf2
              have eo : oaR S N V a = (true, m2, upV (upV (upV r.2.2 (12 + 29 * V 0 + 1) br) (12 + 29 * V 0 + 2) gu) 0 (V 0 + 1)) := by
                unfold oaR
                rw [if_pos c6]
                simp only
                rw [er, if_pos z, nf2.1]
                exact nf2.2
              rw [eo] at kk
              have v8 : g8 172 0 = V 0 := by
                rw [e8, upd2_nj (by omega), e7, upd2_nj (by omega), o6 _ _ (by omega), v5]
                exact hwf 0 (by omega)
              have x8 : ∀ j, (upd2 g8 172 0 (g8 172 0 + 1)) 171 j = g6 171 j := fun j => by rw [upd2_ne (by decide), e8, upd2_ne (by decide), e7, upd2_ne (by decide)]
              refine kk.yes ?_ ?_ (at6.v (x8 10))
              · refine o6.w.trans ?_
                have a1 : oW g6 g7 := by rw [e7]; exact oW.at g6 (by omega) (by omega)
                have a2 : oW g7 g8 := by rw [e8]; exact oW.at g7 (by omega) (by omega)
                exact a1.trans (a2.trans (oW.at g8 (by decide) (by decide)))
              · rw [upd_172, v8, e8, upd_172, e7, upd_172, o6.v, v5]
            refine ⟨fun _ => ?_, fun q => absurd (by omega) q⟩
            refine m_toldB 2028 12 1012 0 (by decide) ⟨by decide, by decide⟩ (by decide +kernel) (by decide) hS hR5 at5 (by decide) (by decide) (by decide) (fun y1 y2 g6 o6 at6 => bI_in ?_) (fun y1 y2 g6 o6 f6 => bI_in ?_) (fun y1 g6 o6 at6 => bI_in ?_)
            · exact fin _ _ g6 y2.2.1 y2.2.2 (by unfold guS; rw [if_pos y1]) (fun _ => y2) o6 at6
            · rw [show wr 1000000 = 1000000 by decide +kernel]
              refine ⟨fun q => absurd rfl q, fun _ => ?_⟩
              have e1 : exR S N 1011 1 (12 + 29 * V 0 + 1) (nwP r.2.2 (V 0)) r.2.1 = (true, m, upV (nwP r.2.2 (V 0)) (12 + 29 * V 0 + 1) br) := by
                unfold exR
                unfold brS at eb
                by_cases q : S r.2.1 = 1011
                · rw [if_pos q] at eb
                  obtain ⟨rfl, rfl⟩ := Prod.mk.inj eb
                  rw [if_pos q, if_pos (hb q)]
                · rw [if_neg q] at eb
                  obtain ⟨rfl, rfl⟩ := Prod.mk.inj eb
                  rw [if_neg q, ← nw_B v0]
              have eo : oaR S N V a = (false, m + 1, upV (nwP r.2.2 (V 0)) (12 + 29 * V 0 + 1) br) := by
                unfold oaR
                rw [if_pos c6]
                simp only
                rw [er, if_pos z, e1, if_pos rfl]
                unfold exR
                rw [if_pos y1, if_neg y2]
              rw [eo] at kk
              exact kk.no o6.w f6
            · exact fin 0 m g6 (by decide) (by decide) (by unfold guS; rw [if_neg y1]) (fun q => absurd q y1) o6 at6
          refine m_toldB 2027 11 1011 1 (by decide) ⟨by decide, by decide⟩ (by decide +kernel) (by decide) hS hR4 at4 (by decide) (by decide) (by decide) (fun y1 y2 g5 o5 at5 => bI_in ?_) (fun y1 y2 g5 o5 f5 => bI_in ?_) (fun y1 g5 o5 at5 => bI_in ?_)
          · exact st _ _ g5 y2.2.1 y2.2.2 (by unfold brS; rw [if_pos y1]) (fun _ => y2) o5 at5
          · rw [show wr 1000000 = 1000000 by decide +kernel]
            refine ⟨fun q => absurd rfl q, fun _ => ?_⟩
            have eo : oaR S N V a = (false, r.2.1 + 1, nwP r.2.2 (V 0)) := by
              have e1 : exR S N 1011 1 (12 + 29 * V 0 + 1) (nwP r.2.2 (V 0)) r.2.1 = (false, r.2.1 + 1, nwP r.2.2 (V 0)) := by
                unfold exR
                rw [if_pos y1, if_neg y2]
              unfold oaR
              rw [if_pos c6]
              simp only
              rw [er, if_pos z, e1]
              exact if_neg Bool.false_ne_true
            rw [eo] at kk
            exact kk.no o5.w f5
          · exact st 1 _ g5 (by decide) (by decide) (by unfold brS; rw [if_neg y1]) (fun q => absurd q y1) o5 at5
        · rw [if_neg z]
          refine bI_in ?_
          rw [w0]
          refine ⟨fun q => absurd rfl q, fun _ => ?_⟩
          have eo := no r rfl z
          rw [eo] at kk
          have kk := kk g4 o4 (fun q => absurd q z) (fun _ => n4 z)
          rw [if_neg z] at kk
          exact kk
      · have c1 : sgK (S (a + 1)) = -1 := by omega
        have ew : wdR S N (V 0) 12 V (a + 1) 0 0 = (false, a + 1, upV V (12 + 29 * V 0 + 0) 0) := by
          unfold wdR
          rw [if_pos c1, decide_eq_false (fun q => absurd q.1 (by decide))]
        rw [no _ ew.symm (by exact Bool.false_ne_true)] at kk
        refine bI_in ?_
        rw [w0]
        exact ⟨fun q => absurd rfl q, fun _ => kk.no oW.refl l3.1⟩
    · apply wpX12_readPerson_15
      rw [wr_id (x := (i : Int)) (by omega) (by omega), wr_id (x := 12 + 29 * V 0 + (i : Int)) (by omega) (by omega)]
      refine ⟨fun q => absurd q (by omega), fun _ => ⟨by omega, fun g1 e1 => ?_⟩⟩
      have e0 : V (12 + 29 * V 0 + (i : Int)) = 0 := hz _ (Int.le_refl _) c6 i (by omega) (by omega)
      refine hi g1 ?_ (o'.trans (by rw [e1]; exact oW.at g' (by omega) (by omega))) (fun j => by rw [e1, upd2_ne (by decide)]; exact r' j)
      rw [e1, upd_172, v']
      funext j
      by_cases q : j = 12 + 29 * V 0 + (i : Int)
      · rw [q, upV_eq, e0]
      · rw [upV_ne q]
  · unfold oaR at kk
    rw [if_neg (by omega)] at kk
    exact kk.no oW.refl hL.1
end MI
