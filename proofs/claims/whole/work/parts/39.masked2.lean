/-! WHAT IS ASKED of people: the reference's side, more -/
section MS9
variable {Γ : Cfg} {l : Launch} {d b : Nat} {g : GG} {K : Ou → HP → Prop} {V : VV} {p q : Int}
theorem m_needOf (hv : g 172 = V) (hV : WF V) (p0 : 0 ≤ p) (p1 : p < V 0) (kk : K (.inl (vI (needS V p))) (stt g)) : Ct Γ l (d + 2) b yX12_needOf mX12_needOf [vR 171, vI p] (stt g) K := by
  have h6 := hV.1.1
  have hp := hV.pn p0 (show p < 6 by omega)
  have hb := hp.2.2.2.2.2 p1
  obtain ⟨a0, a1, -⟩ := ofP_all hv p0 (show p < 6 by omega)
  apply wpX12_needOf
  rw [a0.1, a1.1, wr_id (x := zB V p) (by omega) (by omega), iDiv_nn (by omega) (by omega) (by omega) (by omega)]
  exact ⟨a0.2, a1.2, a1.2, by omega, kk⟩
theorem m_countsOf (hv : g 172 = V) (hV : WF V) (p0 : 0 ≤ p) (p1 : p < 6) (kk : K (.inl (vI (hcS V p))) (stt g)) : Ct Γ l (d + 2) b yX12_countsOf mX12_countsOf [vR 171, vI p] (stt g) K := by
  have hp := hV.pn p0 p1
  obtain ⟨a0, a1, a2, a3, a4⟩ := ofP_all hv p0 p1
  apply wpX12_countsOf
  rw [a3.1, a4.1, wr_id (x := zS V p) (by omega) (by omega)]
  unfold hcS at kk
  refine ⟨a3.2, fun z => ?_, fun z => ⟨a4.2, ?_⟩⟩
  · rw [if_neg z] at kk; exact kk
  · rw [if_pos (by omega)] at kk; exact kk
theorem m_heldWeight (hv : g 172 = V) (hV : WF V) (hW : okLaw V) (p0 : 0 ≤ p) (p1 : p < 6) (kk : ∀ g', onlyO g g' → K (.inl (vI (hwS V V p))) (stt g')) : Ct Γ l (d + 7) b yX12_heldWeight mX12_heldWeight [vR 171, vI p] (stt g) K := by
  have hc := hcS_rng hV p0 p1
  apply wpX12_heldWeight
  refine m_inOrder fun g1 i1 o1 => bV_in ?_
  have v1 : g1 172 = V := by rw [← hv]; exact funext fun j => o1 _ _ (by decide)
  refine m_countsOf v1 hV p0 p1 (bI_in ?_)
  exact m_weightAt v1 hV hW i1 p0 p1 hc.1 hc.2 fun g2 _ o2 => bI_in (kk g2 (fun a j hs ha => by rw [o2 a j hs, o1 a j ha]))
theorem m_shareOf (hv : g 172 = V) (hV : WF V) (hW : okLaw V) (p0 : 0 ≤ p) (p1 : p < V 0) (kk : ∀ g', onlyO g g' → K (.inl (vI (shS V V p))) (stt g')) : Ct Γ l (d + 8) b yX12_shareOf mX12_shareOf [vR 171, vI p] (stt g) K := by
  have h6 := hV.1.1
  apply wpX12_shareOf
  refine up_loop (P := fun n => ∀ g2, onlyO g g2 → AW Γ l mX12_shareOf (d + 8) b 4 [vR 171, vI p, vI (fd (fun s o => s + hwS V V o) 0 n), vI n] [] (stt g2) K) (N := (V 0).toNat) (fun g2 ho => ?_) (fun n hn hi g2 ho => ?_) 0 (Nat.zero_le _) g onlyO.rf
  · have ha := al_rng hV hW (V 0).toNat (by omega)
    have hw := hwS_rng hV hW p0 (show p < 6 by omega)
    apply wpX12_shareOf_4
    unfold shS alS at kk
    rw [ho.v.trans hv, wr_id (x := V 0) (by omega) (by omega), wr_id (x := ((V 0).toNat : Int)) (by omega) (by omega)]
    generalize fd (fun s o => s + hwS V V o) 0 (V 0).toNat = al at ha kk ⊢
    rw [wr_id (x := al) (by omega) (by omega)]
    refine ⟨fun _ => ⟨fun z => m_heldWeight (ho.v.trans hv) hV hW p0 (by omega) fun g3 ho3 => bI_in ⟨z, ?_⟩, fun z => ?_⟩, fun z => absurd (show V 0 ≤ ((V 0).toNat : Int) by omega) z⟩
    · have := kk g3 (ho.tr ho3)
      rw [if_neg z] at this
      rw [iDiv_nn (by omega) (by omega) (by omega) (by omega)]
      exact this
    · have := kk g2 ho
      rw [if_pos (by omega)] at this
      exact this
  · apply wpX12_shareOf_4
    rw [ho.v.trans hv, wr_id (x := V 0) (by omega) (by omega), wr_id (x := (n : Int)) (by omega) (by omega)]
    exact ⟨fun z => absurd z (by omega), fun _ => m_heldWeight (ho.v.trans hv) hV hW (by omega) (by omega) fun g3 ho3 => bI_in (hi g3 (ho.tr ho3))⟩
theorem m_kindAt {k : Int} (hv : g 172 = V) (hV : WF V) (p0 : 0 ≤ p) (p1 : p < 6) (k0 : 0 ≤ k) (k1 : k < 12) (kk : K (.inl (vI (kdAt V p k))) (stt g)) : Ct Γ l (d + 3) b yX12_kindAt mX12_kindAt [vR 171, vI p, vI k] (stt g) K := by
  have hp := hV.pn p0 p1
  obtain ⟨a0, -⟩ := ofP_all hv p0 p1
  obtain ⟨w1, w2⟩ := ofP_word hv p0 p1 k0 k1
  apply wpX12_kindAt
  rw [a0.1, w1.1, wr_id (x := zL V p) (by omega) (by omega), wr_id (x := k) (by omega) (by omega)]
  unfold kdAt at kk
  refine ⟨a0.2, fun z => ?_, fun z => ⟨w1.2, ?_⟩⟩
  · rw [if_neg (by omega)] at kk; exact kk
  · rw [if_pos (by omega)] at kk; exact kk
theorem m_alikeOf (hv : g 172 = V) (hV : WF V) (p0 : 0 ≤ p) (p1 : p < 6) (q0 : 0 ≤ q) (q1 : q < 6) (kk : K (.inl (vI (aaS V p q))) (stt g)) : Ct Γ l (d + 3) b yX12_alikeOf mX12_alikeOf [vR 171, vI p, vI q] (stt g) K := by
  have hp := hV.pn p0 p1
  have hq := hV.pn q0 q1
  obtain ⟨a0, -⟩ := ofP_all hv p0 p1
  obtain ⟨b0, -⟩ := ofP_all hv q0 q1
  have em : iMin (zL V p) (zL V q) = mnL V p q := iMin_id (by omega) (by omega) (by omega) (by omega)
  have hm : 0 ≤ mnL V p q ∧ mnL V p q ≤ zL V p ∧ mnL V p q ≤ zL V q := by
    unfold mnL
    omega
  apply wpX12_alikeOf
  refine up_loop (P := fun n => AW Γ l mX12_alikeOf (d + 3) b 5 [vR 171, vI p, vI q, vI (fd (fun c k => if zW V p k = zW V q k then c + 1 else c) 0 n), vI n] [] (stt g) K) (N := (mnL V p q).toNat) ?_ (fun n hn hi => ?_) 0 (Nat.zero_le _)
  · apply wpX12_alikeOf_5
    rw [a0.1, b0.1, em, wr_id (x := mnL V p q) (by omega) (by omega), wr_id (x := ((mnL V p q).toNat : Int)) (by omega) (by omega)]
    exact ⟨a0.2, b0.2, fun _ => kk, fun hc => absurd (show mnL V p q ≤ ((mnL V p q).toNat : Int) by omega) hc⟩
  · have hk1 := hV.kn p0 p1 (k := n) (by omega) (by omega)
    have hk2 := hV.kn q0 q1 (k := n) (by omega) (by omega)
    obtain ⟨w1, w2⟩ := ofP_word hv p0 p1 (k := n) (by omega) (by omega)
    obtain ⟨x1, x2⟩ := ofP_word hv q0 q1 (k := n) (by omega) (by omega)
    have hi2 : AW Γ l mX12_alikeOf (d + 3) b 5 [vR 171, vI p, vI q, vI (if zW V p n = zW V q n then fd (fun c k => if zW V p k = zW V q k then c + 1 else c) 0 n + 1 else fd (fun c k => if zW V p k = zW V q k then c + 1 else c) 0 n), vI ((n : Int) + 1)] [] (stt g) K := hi
    have hz : zW V p n = zW V q n ↔ zK V p n = zK V q n ∧ zN V p n = zN V q n := Prod.mk.injEq _ _ _ _ ▸ Iff.rfl
    apply wpX12_alikeOf_5
    rw [a0.1, b0.1, em, w1.1, w2.1, x1.1, x2.1, wr_id (x := mnL V p q) (by omega) (by omega), wr_id (x := (n : Int)) (by omega) (by omega), wr_id (x := zK V p n) (by omega) (by omega), wr_id (x := zK V q n) (by omega) (by omega), wr_id (x := zN V p n) (by omega) (by omega), wr_id (x := zN V q n) (by omega) (by omega), Int.add_zero]
    refine ⟨a0.2, b0.2, fun z => absurd z (by omega), fun _ => ⟨w1.2, x1.2, fun z => ?_, fun z => ⟨w2.2, x2.2, fun z2 => ?_, fun z2 => ?_⟩⟩⟩
    · rw [if_neg (fun e => z (hz.mp e).1)] at hi2; exact hi2
    · rw [if_neg (fun e => z2 (hz.mp e).2)] at hi2; exact hi2
    · rw [if_pos (hz.mpr ⟨by omega, by omega⟩)] at hi2; exact hi2
theorem m_goingOf (hv : g 172 = V) (hV : WF V) (p0 : 0 ≤ p) (p1 : p < V 0) (kk : K (.inl (vI (goS V p))) (stt g)) : Ct Γ l (d + 3) b yX12_goingOf mX12_goingOf [vR 171, vI p] (stt g) K := by
  have h6 := hV.1.1
  have hp := hV.pn p0 (show p < 6 by omega)
  obtain ⟨a0, a1, a2, a3, a4⟩ := ofP_all hv p0 (show p < 6 by omega)
  apply wpX12_goingOf
  rw [a3.1, wr_id (x := zS V p) (by omega) (by omega)]
  unfold goS at kk
  refine ⟨a3.2, fun z => ?_, fun z => ?_⟩
  · rw [if_pos z] at kk
    have hwr : ∀ n : Nat, wr (fd (fun b o => if zC V p ≤ zL V o ∧ alk V p o (zC V p).toNat = true then iOr b (iShl 1 o) else b) 0 n) = fd (fun b o => if zC V p ≤ zL V o ∧ alk V p o (zC V p).toNat = true then iOr b (iShl 1 o) else b) 0 n := fun n => fd_ind (P := fun _ x => wr x = x) wr_0 (fun n x hx => by
      by_cases c : zC V p ≤ zL V n ∧ alk V p n (zC V p).toNat = true
      · simp only [if_pos c, wr_iOr]
      · simp only [if_neg c, hx]) n
    refine up_loop (P := fun n => AW Γ l mX12_goingOf (d + 3) b 16 [vR 171, vI p, vI (fd (fun b o => if zC V p ≤ zL V o ∧ alk V p o (zC V p).toNat = true then iOr b (iShl 1 o) else b) 0 n), vI n, vU, vU] [] (stt g) K) (N := (V 0).toNat) ?_ (fun n hn hi => ?_) 0 (Nat.zero_le _)
    · apply wpX12_goingOf_16
      rw [hv, wr_id (x := V 0) (by omega) (by omega), wr_id (x := ((V 0).toNat : Int)) (by omega) (by omega)]
      exact ⟨fun _ => kk, fun c => absurd (show V 0 ≤ ((V 0).toNat : Int) by omega) c⟩
    · have ho := hV.pn (p := n) (by omega) (by omega)
      obtain ⟨b0, -⟩ := ofP_all hv (p := n) (by omega) (by omega)
      have hi2 : AW Γ l mX12_goingOf (d + 3) b 16 [vR 171, vI p, vI (if zC V p ≤ zL V n ∧ alk V p n (zC V p).toNat = true then iOr (fd (fun b o => if zC V p ≤ zL V o ∧ alk V p o (zC V p).toNat = true then iOr b (iShl 1 o) else b) 0 n) (iShl 1 n) else fd (fun b o => if zC V p ≤ zL V o ∧ alk V p o (zC V p).toNat = true then iOr b (iShl 1 o) else b) 0 n), vI ((n : Int) + 1), vU, vU] [] (stt g) K := hi
      have hwn := hwr n
      generalize fd (fun b o => if zC V p ≤ zL V o ∧ alk V p o (zC V p).toNat = true then iOr b (iShl 1 o) else b) 0 n = B at hi2 hwn ⊢
      -- the end of the comparison
      have out : ∀ (is : Int) (i : Int), (is = 0 ∨ is = 1) → (is = 1 ↔ zC V p ≤ zL V n ∧ alk V p n (zC V p).toNat = true) → ((is = 0 → AW Γ l mX12_goingOf (d + 3) b 16 [vR 171, vI p, vI B, vI ((n : Int) + 1), vI is, vI i] [] (stt g) K) ∧ (¬ is = 0 → AW Γ l mX12_goingOf (d + 3) b 16 [vR 171, vI p, vI (iOr B (iShl 1 n)), vI ((n : Int) + 1), vI is, vI i] [] (stt g) K)) := by
        intro is i h01 hh
        refine ⟨fun c => ?_, fun c => ?_⟩
        · rw [if_neg (fun e => by have := hh.mpr e; omega)] at hi2
          exact AW.weak hi2 (by simp [leP])
        · rw [if_pos (hh.mp (by omega))] at hi2
          exact AW.weak hi2 (by simp [leP])
      have lp : ∀ is : Int, (is = 1 ↔ zC V p ≤ zL V n) → (is = 0 ∨ is = 1) → AW Γ l mX12_goingOf (d + 3) b 49 [vR 171, vI p, vI B, vI n, vI is, vI 0] [] (stt g) K := by
        intro is his h01
        by_cases hl : zC V p ≤ zL V n
        · -- word by word
          have e1 : is = 1 := his.mpr hl
          rw [e1]
          have bad : ∀ k : Nat, (k : Int) ≤ zC V p → alk V p n k = false → AW Γ l mX12_goingOf (d + 3) b 49 [vR 171, vI p, vI B, vI n, vI 0, vI k] [] (stt g) K := by
            intro k hk hf
            have hf2 : ¬ (alk V p n (zC V p).toNat = true) := fun e => by
              have := alk_iff.mp e
              have t : alk V p n k = true := alk_iff.mpr fun i i0 i1 => this i i0 (by omega)
              rw [t] at hf
              cases hf
            have o := out 0 k (Or.inl rfl) ⟨fun e => absurd e (by decide), fun e => absurd e.2 hf2⟩
            apply wpX12_goingOf_49
            rw [a4.1, wr_0, iOr_0 hwn]
            refine ⟨a4.2, fun _ => ⟨fun _ => o.1 rfl, fun c => absurd rfl c⟩, fun _ => ⟨fun _ => ⟨fun _ => o.1 rfl, fun c => absurd rfl c⟩, fun c => absurd rfl c⟩⟩
          refine up_loop (P := fun k => alk V p n k = true → AW Γ l mX12_goingOf (d + 3) b 49 [vR 171, vI p, vI B, vI n, vI 1, vI k] [] (stt g) K) (N := (zC V p).toNat) (fun ht => ?_) (fun k hk hik ht => ?_) 0 (Nat.zero_le _) rfl
          · have o := out 1 ((zC V p).toNat : Int) (Or.inr rfl) ⟨fun _ => ⟨hl, ht⟩, fun _ => rfl⟩
            apply wpX12_goingOf_49
            rw [a4.1, iOr_0 hwn, wr_id (x := zC V p) (by omega) (by omega), wr_id (x := ((zC V p).toNat : Int)) (by omega) (by omega), show wr 1 = 1 by decide +kernel]
            exact ⟨a4.2, fun _ => o, fun c => absurd (show zC V p ≤ ((zC V p).toNat : Int) by omega) c⟩
          · have hk1 := hV.kn p0 (show p < 6 by omega) (k := k) (by omega) (by omega)
            have hk2 := hV.kn (p := n) (by omega) (by omega) (k := k) (by omega) (by omega)
            obtain ⟨w1, w2⟩ := ofP_word hv p0 (show p < 6 by omega) (k := k) (by omega) (by omega)
            obtain ⟨x1, x2⟩ := ofP_word hv (p := n) (by omega) (by omega) (k := k) (by omega) (by omega)
            have ea : alk V p n (k + 1) = (alk V p n k && decide (zW V n k = zW V p k)) := rfl
            have hz : zW V n k = zW V p k ↔ zK V n k = zK V p k ∧ zN V n k = zN V p k := Prod.mk.injEq _ _ _ _ ▸ Iff.rfl
            rw [ht, Bool.true_and] at ea
            have bd : ¬ (zK V n k = zK V p k ∧ zN V n k = zN V p k) → AW Γ l mX12_goingOf (d + 3) b 49 [vR 171, vI p, vI B, vI n, vI 0, vI ((k : Int) + 1)] [] (stt g) K := fun c => bad (k + 1) (by omega) (by rw [ea]; exact decide_eq_false (fun e => c (hz.mp e)))
            apply wpX12_goingOf_49
            rw [a4.1, w1.1, w2.1, x1.1, x2.1, wr_id (x := zC V p) (by omega) (by omega), wr_id (x := (k : Int)) (by omega) (by omega), show wr 1 = 1 by decide +kernel, wr_id (x := zK V p k) (by omega) (by omega), wr_id (x := zK V n k) (by omega) (by omega), wr_id (x := zN V p k) (by omega) (by omega), wr_id (x := zN V n k) (by omega) (by omega)]
            refine ⟨a4.2, fun c => absurd c (by omega), fun _ => ⟨fun c => absurd c (by decide), fun _ => ⟨x1.2, w1.2, fun c => bd (fun e => c e.1), fun c => ⟨x2.2, w2.2, fun c2 => bd (fun e => c2 e.2), fun c2 => hik ?_⟩⟩⟩⟩
            rw [ea]
            exact decide_eq_true (hz.mpr ⟨by omega, by omega⟩)
        · have e0 : is = 0 := by
            rcases h01 with e | e
            · exact e
            · exact absurd (his.mp e) hl
          rw [e0]
          have o := out 0 0 (Or.inl rfl) ⟨fun e => absurd e (by decide), fun e => absurd e.1 hl⟩
          apply wpX12_goingOf_49
          rw [a4.1, wr_0, iOr_0 hwn]
          refine ⟨a4.2, fun _ => ⟨fun _ => o.1 rfl, fun c => absurd rfl c⟩, fun _ => ⟨fun _ => ⟨fun _ => o.1 rfl, fun c => absurd rfl c⟩, fun c => absurd rfl c⟩⟩
      apply wpX12_goingOf_16
      rw [hv, b0.1, a4.1, wr_id (x := V 0) (by omega) (by omega), wr_id (x := (n : Int)) (by omega) (by omega), wr_id (x := zL V n) (by omega) (by omega), wr_id (x := zC V p) (by omega) (by omega)]
      refine ⟨fun c => absurd c (by omega), fun _ => ⟨b0.2, a4.2, fun c => lp 0 ⟨fun e => absurd e (by decide), fun e => absurd e (by omega)⟩ (Or.inl rfl), fun c => lp 1 ⟨fun _ => by omega, fun _ => rfl⟩ (Or.inr rfl)⟩⟩
  · rw [if_neg z] at kk
    exact kk
end MS9
