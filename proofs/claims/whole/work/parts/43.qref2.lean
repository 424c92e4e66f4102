/-! PUBLIC CALLS that only ask: the reference's side, more -/
theorem aaS_rng {V : VV} {p q : Int} (hp : 0 ≤ zL V p) (hq : 0 ≤ zL V q) : 0 ≤ aaS V p q ∧ aaS V p q ≤ zL V p := by
  have key : ∀ n : Nat, (0 : Int) ≤ fd (fun (c k : Int) => if zW V p k = zW V q k then c + 1 else c) 0 n ∧ fd (fun (c k : Int) => if zW V p k = zW V q k then c + 1 else c) 0 n ≤ (n : Int) := fd_ind (P := fun (n : Nat) (x : Int) => 0 ≤ x ∧ x ≤ (n : Int)) ⟨by decide, by decide⟩ fun n x h => by
    by_cases c : zW V p n = zW V q n
    · simp only [if_pos c]; omega
    · simp only [if_neg c]; omega
  have := key (mnL V p q).toNat
  have hm : mnL V p q ≤ zL V p ∧ 0 ≤ mnL V p q := by unfold mnL; omega
  unfold aaS
  omega
section MQ3
variable {Γ : Cfg} {l : Launch} {d b : Nat} {g : GG} {K : Ou → HP → Prop} {V : VV} {p q n w k : Int}
theorem m_odds (hv : g 172 = V) (hV : WF V) (hn : wr n = n) (kk : mc g (s_odds V n) K) : Ct Γ l (d + 2) b yX12_odds mX12_odds [vR 171, vI n] (stt g) K := by
  have h6 := hV.1.1
  have h3 := hV.1.2.2.1
  apply wpX12_odds
  have v1 := th_v (c := 0) hv
  rw [hn]
  have m1 : kM g (upd2 g 171 0 0) := kM.th
  have z1 : upd2 g 171 0 0 171 0 = 0 := th_z
  generalize upd2 g 171 0 0 = g1 at v1 m1 z1 ⊢
  refine ⟨fun z => ?_, fun z => mc_fin kk ?_ (m1.tr kM.th) th_z⟩
  · refine up_loop (P := fun i => AW Γ l mX12_odds (d + 2) b 35 [vR 171, vI n, vI (fd (fun o _ => od1 V o) 10000 i), vI i, vU] [] (stt g1) K) (N := n.toNat) ?_ (fun i hi9 hi => ?_) 0 (Nat.zero_le _)
    · apply wpX12_odds_35
      rw [hn, wr_id (x := (n.toNat : Int)) (by omega) (by omega)]
      refine ⟨fun _ => mc_fin kk ?_ m1 z1, fun z => absurd (show n ≤ (n.toNat : Int) by omega) z⟩
      unfold s_odds; rw [if_pos z]
    · have ho := ods_rng hV i
      apply wpX12_odds_35
      rw [hn, wr_id (x := (i : Int)) (by omega) (by omega)]
      refine ⟨fun z => absurd z (by omega), fun _ => ?_⟩
      have hi2 : AW Γ l mX12_odds (d + 2) b 35 [vR 171, vI n, vI (od1 V (fd (fun o _ => od1 V o) 10000 i)), vI ((i : Int) + 1), vU] [] (stt g1) K := hi
      generalize fd (fun o _ => od1 V o) 10000 i = o at ho hi2 ⊢
      unfold od1 at hi2
      refine up_loop (P := fun q => AW Γ l mX12_odds (d + 2) b 43 [vR 171, vI n, vI (fd (fun o p => if zS V p = 1 then obS V o (zG V p) else o) o q), vI i, vI q] [] (stt g1) K) (N := (V 0).toNat) ?_ (fun q hq9 hq => ?_) 0 (Nat.zero_le _)
      · apply wpX12_odds_43
        rw [v1, wr_id (x := V 0) (by omega) (by omega), wr_id (x := ((V 0).toNat : Int)) (by omega) (by omega)]
        exact ⟨fun _ => AW.weak hi2 (by simp [leP]), fun z => absurd (show V 0 ≤ ((V 0).toNat : Int) by omega) z⟩
      · have hp := hV.pn (p := q) (by omega) (by omega)
        have hr := od1_rng hV ho.1 ho.2 q (by omega)
        have hq2 : AW Γ l mX12_odds (d + 2) b 43 [vR 171, vI n, vI (if zS V q = 1 then obS V (fd (fun o p => if zS V p = 1 then obS V o (zG V p) else o) o q) (zG V q) else fd (fun o p => if zS V p = 1 then obS V o (zG V p) else o) o q), vI i, vI ((q : Int) + 1)] [] (stt g1) K := hq
        obtain ⟨a0, a1, a2, a3, a4⟩ := ofP_all v1 (p := q) (by omega) (by omega)
        apply wpX12_odds_43
        rw [v1, wr_id (x := V 0) (by omega) (by omega), wr_id (x := (q : Int)) (by omega) (by omega), a3.1, a2.1, wr_id (x := zS V q) (by omega) (by omega)]
        refine ⟨fun z => absurd z (by omega), fun _ => ⟨a3.2, fun z => ?_, fun z => ⟨a2.2, m_chanceOf h3.1 h3.2 (by omega) (by omega) (bI_in ?_)⟩⟩⟩
        · rw [if_neg z] at hq2; exact hq2
        · rw [if_pos (by omega)] at hq2
          rw [ob_div hV hr.1 hr.2 (by omega) (by omega)]
          exact hq2
  · unfold s_odds; rw [if_neg z]
theorem m_amountOf (hv : g 172 = V) (hV : WF V) (hW : okLaw V) (hw : wr w = w) (p0 : 0 ≤ p) (p1 : p < 6) (kk : ∀ g', onlyO g g' → K (.inl (vI (amS V w p))) (stt g')) : Ct Γ l (d + 8) b yX12_amountOf mX12_amountOf [vR 171, vI w, vI p] (stt g) K := by
  obtain ⟨a0, a1, a2, a3, a4⟩ := ofP_all hv p0 p1
  apply wpX12_amountOf
  rw [hw, a0.1, a2.1]
  unfold amS at kk
  refine ⟨fun z => ⟨fun z2 => ⟨a2.2, ?_⟩, fun z2 => m_heldWeight hv hV hW p0 p1 fun g' o => bI_in ?_⟩, fun z => ⟨a0.2, ?_⟩⟩
  · rw [if_neg z, if_neg z2] at kk; exact kk g onlyO.rf
  · rw [if_neg z, if_pos (by omega)] at kk; exact kk g' o
  · rw [if_pos (by omega)] at kk; exact kk g onlyO.rf
theorem m_most (hv : g 172 = V) (hV : WF V) (hW : okLaw V) (hw : wr w = w) (kk : mc g (s_most V w) K) : Ct Γ l (d + 9) b yX12_most mX12_most [vR 171, vI w] (stt g) K := by
  have h6 := hV.1.1
  apply wpX12_most
  have v1 := th_v (c := 0) hv
  rw [hw]
  have m1 : kM g (upd2 g 171 0 0) := kM.th
  have z1 : upd2 g 171 0 0 171 0 = 0 := th_z
  generalize upd2 g 171 0 0 = g1 at v1 m1 z1 ⊢
  refine ⟨fun z => ?_, fun z => mc_fin kk ?_ (m1.tr kM.th) th_z⟩
  · refine up_loop (P := fun i => ∀ g2, onlyO g1 g2 → AW Γ l mX12_most (d + 9) b 33 [vR 171, vI w, vI (moS V w i), vI i] [] (stt g2) K) (N := (V 0).toNat) (fun g2 ho => ?_) (fun i hi9 hi g2 ho => ?_) 0 (Nat.zero_le _) g1 onlyO.rf
    · apply wpX12_most_33
      rw [ho.v.trans v1, wr_id (x := V 0) (by omega) (by omega), wr_id (x := ((V 0).toNat : Int)) (by omega) (by omega)]
      refine ⟨fun _ => mc_fin kk ?_ (m1.tr ho.k) (by rw [ho.z, z1]), fun z => absurd (show V 0 ≤ ((V 0).toNat : Int) by omega) z⟩
      unfold s_most; rw [if_pos z]
    · have hm := moS_rng V w i
      have e : moS V w (i + 1) = if moS V w i = -1 then (i : Int) else if amS V w (moS V w i) < amS V w i then (i : Int) else moS V w i := rfl
      rw [e] at hi
      have ha := amS_rng (w := w) hV hW (p := i) (by omega) (by omega)
      apply wpX12_most_33
      rw [ho.v.trans v1, wr_id (x := V 0) (by omega) (by omega), wr_id (x := (i : Int)) (by omega) (by omega), wr_id (x := moS V w i) (by omega) (by omega)]
      refine ⟨fun z => absurd z (by omega), fun _ => ⟨fun z => ?_, fun z => m_amountOf (ho.v.trans v1) hV hW hw (by omega) (by omega) fun g3 o3 => bI_in (m_amountOf ((ho.tr o3).v.trans v1) hV hW hw (by omega) (by omega) fun g4 o4 => bI_in ?_)⟩⟩
      · rw [if_pos z] at hi; exact hi g2 ho
      · have hb := amS_rng (w := w) hV hW (p := moS V w i) (by omega) (by omega)
        rw [if_neg z] at hi
        have hi := hi g4 ((ho.tr o3).tr o4)
        rw [wr_id (x := amS V w i) (by omega) (by omega), wr_id (x := amS V w (moS V w i)) (by omega) (by omega)]
        refine ⟨fun z2 => ?_, fun z2 => ?_⟩
        · rw [if_neg (by omega)] at hi; exact hi
        · rw [if_pos (by omega)] at hi; exact hi
  · unfold s_most; rw [if_neg z]
theorem m_which (hv : g 172 = V) (hV : WF V) (hw : wr w = w) (kk : mc g (s_which V w) K) : Ct Γ l (d + 3) b yX12_which mX12_which [vR 171, vI w] (stt g) K := by
  apply wpX12_which
  have v1 := th_v (c := 0) hv
  rw [hw]
  have m1 : kM g (upd2 g 171 0 0) := kM.th
  have z1 : upd2 g 171 0 0 171 0 = 0 := th_z
  generalize upd2 g 171 0 0 = g1 at v1 m1 z1 ⊢
  refine ⟨fun z => m_allIn v1 hV z.1 z.2 (bI_in (mc_fin kk ?_ m1 z1)), fun z => mc_fin kk ?_ (m1.tr kM.th) th_z⟩
  · unfold s_which; rw [if_pos z]
  · unfold s_which; rw [if_neg z]
theorem m_ofLog {i x : Int} (hv : g 172 = V) (i0 : 0 ≤ i) (i1 : i < 60) (w0 : 0 ≤ w) (w1 : w < 5) (hx : V (186 + 5 * i + w) = x) (kk : K (.inl (vI x)) (stt g)) : Ct Γ l d b yX12_ofLog mX12_ofLog [vR 171, vI i, vI w] (stt g) K := by
  apply wpX12_ofLog
  rw [wr_id (x := 186 + 5 * i + w) (by omega) (by omega), hv, hx]
  exact ⟨by omega, kk⟩
theorem m_log {i : Int} (hv : g 172 = V) (hV : WF V) (hi : wr i = i) (hw : wr w = w) (kk : mc g (s_log V i w) K) : Ct Γ l (d + 1) b yX12_log mX12_log [vR 171, vI i, vI w] (stt g) K := by
  have h6 := hV.1.2.2.2.2.2
  apply wpX12_log
  have v1 := th_v (c := 0) hv
  rw [hi, hw, v1, wr_id (x := V 6 - 1) (by omega) (by omega)]
  have m1 : kM g (upd2 g 171 0 0) := kM.th
  have z1 : upd2 g 171 0 0 171 0 = 0 := th_z
  generalize upd2 g 171 0 0 = g1 at v1 m1 z1 ⊢
  refine ⟨fun z => ⟨fun z2 => m_ofLog v1 z2.1 (by omega) z.1 (by omega) rfl (bI_in (mc_fin kk ?_ m1 z1)), fun z2 => mc_fin kk ?_ m1 z1⟩, fun z => mc_fin kk ?_ (m1.tr kM.th) th_z⟩
  · unfold s_log; rw [if_pos z, if_pos (by omega)]
  · unfold s_log; rw [if_pos z, if_neg (by omega)]
  · unfold s_log; rw [if_neg z]
theorem m_led (hv : g 172 = V) (hV : WF V) (hp : wr p = p) (hn : wr n = n) (kk : mc g (s_led V p n) K) : Ct Γ l (d + 2) b yX12_led mX12_led [vR 171, vI p, vI n] (stt g) K := by
  have h6 := hV.1.2.2.2.2.2
  apply wpX12_led
  have v1 := th_v (c := 0) hv
  rw [pcond hV v1 hp, v1]
  have m1 : kM g (upd2 g 171 0 0) := kM.th
  have z1 : upd2 g 171 0 0 171 0 = 0 := th_z
  generalize upd2 g 171 0 0 = g1 at v1 m1 z1 ⊢
  refine ⟨fun z => mc_fin kk ?_ (m1.tr kM.th) th_z, fun z => ?_⟩
  · unfold s_led; rw [if_neg z]
  · have z := Decidable.not_not.mp z
    have z9 := up_loop (P := fun i => AW Γ l mX12_led (d + 2) b 36 [vR 171, vI p, vI n, vI (ledS V p i).1, vI (ledS V p i).2, vI (V 6 - 1 - i)] [] (stt g1) K) (N := (V 6).toNat) ?_ (fun i hi9 hi => ?_) 0 (Nat.zero_le _)
    · rw [show V 6 - 1 - ((0 : Nat) : Int) = V 6 - 1 by omega] at z9
      exact z9
    · apply wpX12_led_36
      rw [wr_id (x := V 6 - 1 - ((V 6).toNat : Int)) (by omega) (by omega), hn]
      refine ⟨fun _ => ⟨fun c => mc_fin kk ?_ m1 z1, fun c => mc_fin kk ?_ m1 z1⟩, fun c => absurd (show V 6 - 1 - ((V 6).toNat : Int) < 0 by omega) c⟩
      · unfold s_led; rw [if_pos z, if_pos c]
      · unfold s_led; rw [if_pos z, if_neg c]
    · have e : ledS V p (i + 1) = if wr (V (186 + 5 * (V 6 - 1 - i) + 1)) = p then ((ledS V p i).1 + 1, V (186 + 5 * (V 6 - 1 - i))) else ledS V p i := rfl
      rw [e, show V 6 - 1 - ((i + 1 : Nat) : Int) = V 6 - 1 - (i : Int) + (-1) by omega] at hi
      apply wpX12_led_36
      rw [wr_id (x := V 6 - 1 - (i : Int)) (by omega) (by omega), hp]
      refine ⟨fun c => absurd c (by omega), fun _ => m_ofLog v1 (by omega) (by omega) (by decide) (by decide) rfl (bI_in ⟨fun c => m_ofLog (x := V (186 + 5 * (V 6 - 1 - (i : Int)))) v1 (by omega) (by omega) (by decide) (by decide) (by rw [Int.add_zero]) (bI_in ?_), fun c => ?_⟩)⟩
      · rw [if_pos c] at hi; exact hi
      · rw [if_neg c] at hi; exact hi
theorem m_sumOfAll {c : Int} (hv : g 172 = V) (hV : WF V) (c0 : 0 ≤ c) (c1 : c ≤ 4) (kk : K (.inl (vI (smS V c))) (stt g)) : Ct Γ l (d + 2) b yX12_sumOfAll mX12_sumOfAll [vR 171, vI c] (stt g) K := by
  have h6 := hV.1.1
  apply wpX12_sumOfAll
  refine up_loop (P := fun i => AW Γ l mX12_sumOfAll (d + 2) b 4 [vR 171, vI c, vI (fd (fun s p => s + V (12 + 29 * p + c)) 0 i), vI i] [] (stt g) K) (N := (V 0).toNat) ?_ (fun i hi9 hi => ?_) 0 (Nat.zero_le _)
  · apply wpX12_sumOfAll_4
    rw [hv, wr_id (x := V 0) (by omega) (by omega), wr_id (x := ((V 0).toNat : Int)) (by omega) (by omega)]
    exact ⟨fun _ => kk, fun z => absurd (show V 0 ≤ ((V 0).toNat : Int) by omega) z⟩
  · have e := ofP_at hv (p := i) (w := c) (by omega) (by omega)
    apply wpX12_sumOfAll_4
    rw [hv, wr_id (x := V 0) (by omega) (by omega), wr_id (x := (i : Int)) (by omega) (by omega), e.1]
    exact ⟨fun z => absurd z (by omega), fun _ => ⟨e.2, hi⟩⟩
theorem m_count {m : Int} (hv : g 172 = V) (hV : WF V) (hW : okLaw V) (hw : wr w = w) (hm : g 171 7 = m) (kk : ∀ g', kM g g' → K (.inl (vI (c_count V m w))) (stt g')) : Ct Γ l (d + 3) b yX12_count mX12_count [vR 171, vI w] (stt g) K := by
  have h6 := hV.1.1
  have h2 := hW.2.1
  unfold c_count at kk
  apply wpX12_count
  have v1 := th_v (c := 0) hv
  have e7 : upd2 g 171 0 0 171 7 = m := by rw [upd2_nj (by decide), hm]
  rw [hw, v1, e7]
  have kk := kk _ (kM.th (c := 0))
  generalize upd2 g 171 0 0 = g1 at v1 kk ⊢
  refine ⟨fun z => ?_, fun z => ?_, fun z => ?_, fun z => ?_, fun z => ?_, fun z => ?_, fun z => ?_, fun z => ?_, fun z => ?_, fun z => ?_, fun z => ?_⟩
  · subst z; exact kk
  · subst z; exact kk
  · subst z
    have kk : K (.inl (vI (if V 2 = 1 then V 486 else -1))) (stt g1) := kk
    rw [wr_id (x := V 2) (by omega) (by omega)]
    refine ⟨fun z => ?_, fun z => ?_⟩
    · rw [if_neg z] at kk; exact kk
    · rw [if_pos (by omega)] at kk; exact kk
  · subst z; exact kk
  · subst z; exact kk
  · subst z; exact kk
  · subst z; exact m_sumOfAll v1 hV (by decide) (by decide) (bI_in kk)
  · subst z; exact m_sumOfAll v1 hV (by decide) (by decide) (bI_in kk)
  · subst z; exact kk
  · subst z; exact kk
  · rw [if_neg (by omega), if_neg (by omega), if_neg (by omega), if_neg (by omega), if_neg (by omega), if_neg (by omega), if_neg (by omega), if_neg (by omega), if_neg (by omega), if_neg (by omega)] at kk
    exact kk
theorem m_twins (hv : g 172 = V) (hV : WF V) (kk : ∀ g', kM g g' → K (.inl (vI (prD (twS V) (V 0).toNat))) (stt g')) : Ct Γ l (d + 4) b yX12_twins mX12_twins [vR 171] (stt g) K := by
  have h6 := hV.1.1
  apply wpX12_twins
  have v1 := th_v (c := 0) hv
  have kk := kk _ (kM.th (c := 0))
  generalize upd2 g 171 0 0 = g1 at v1 kk ⊢
  refine up_loop (P := fun i => AW Γ l mX12_twins (d + 4) b 9 [vR 171, vI (prD (twS V) i), vI i, vU] [] (stt g1) K) (N := (V 0).toNat) ?_ (fun i hi9 hi => ?_) 0 (Nat.zero_le _)
  · apply wpX12_twins_9
    rw [v1, wr_id (x := V 0) (by omega) (by omega), wr_id (x := ((V 0).toNat : Int)) (by omega) (by omega)]
    exact ⟨fun _ => kk, fun z => absurd (show V 0 ≤ ((V 0).toNat : Int) by omega) z⟩
  · have hi2 : AW Γ l mX12_twins (d + 4) b 9 [vR 171, vI (prA (twS V) ((i : Int)).toNat (prD (twS V) i)), vI ((i : Int) + 1), vU] [] (stt g1) K := hi
    rw [Int.toNat_natCast] at hi2
    apply wpX12_twins_9
    rw [v1, wr_id (x := V 0) (by omega) (by omega), wr_id (x := (i : Int)) (by omega) (by omega)]
    refine ⟨fun z => absurd z (by omega), fun _ => ?_⟩
    generalize prD (twS V) i = s at hi2 ⊢
    unfold prA at hi2
    have hpi := hV.pn (p := i) (by omega) (by omega)
    obtain ⟨a0, -⟩ := ofP_all v1 (p := i) (by omega) (by omega)
    refine up_loop (P := fun j => AW Γ l mX12_twins (d + 4) b 19 [vR 171, vI (fd (fun x j => x + twS V i j) s j), vI i, vI j] [] (stt g1) K) (N := i) ?_ (fun j hj9 hj => ?_) 0 (Nat.zero_le _)
    · apply wpX12_twins_19
      exact ⟨fun _ => AW.weak hi2 (by simp [leP]), fun z => absurd (Int.le_refl _) z⟩
    · have hpj := hV.pn (p := j) (by omega) (by omega)
      obtain ⟨b0, -⟩ := ofP_all v1 (p := j) (by omega) (by omega)
      have hj2 : AW Γ l mX12_twins (d + 4) b 19 [vR 171, vI (fd (fun x j => x + twS V i j) s j + twS V i j), vI i, vI ((j : Int) + 1)] [] (stt g1) K := hj
      generalize fd (fun x j => x + twS V i j) s j = y at hj2 ⊢
      apply wpX12_twins_19
      rw [wr_id (x := (i : Int)) (by omega) (by omega), wr_id (x := (j : Int)) (by omega) (by omega), a0.1, b0.1, wr_id (x := zL V i) (by omega) (by omega), wr_id (x := zL V j) (by omega) (by omega)]
      unfold twS at hj2
      refine ⟨fun z => absurd z (by omega), fun _ => ⟨a0.2, b0.2, fun z => ?_, fun z => m_alikeOf v1 hV (by omega) (by omega) (by omega) (by omega) (bI_in ?_)⟩⟩
      · rw [if_neg (fun c => z c.1)] at hj2; exact hj2
      · have e := Decidable.not_not.mp z
        have hr := aaS_rng (V := V) (p := i) (q := j) hpi.1.1 hpj.1.1
        rw [a0.1, wr_id (x := zL V i) (by omega) (by omega), wr_id (x := aaS V i j) (by omega) (by omega)]
        refine ⟨a0.2, fun z2 => ?_, fun z2 => ?_⟩
        · rw [if_neg (fun c => z2 c.2)] at hj2; exact hj2
        · rw [if_pos ⟨e, by omega⟩] at hj2; exact hj2
end MQ3
