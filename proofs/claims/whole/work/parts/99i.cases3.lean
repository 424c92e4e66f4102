/-! THE LAW'S CASES, walked (genL.py), part 3 -/
set_option maxHeartbeats 1000000 in
theorem lc_22 {Γ : Cfg} {l : Launch} {b : Nat} {i : Int} {g : GG} {K : Ou → HP → Prop} (hi : 0 ≤ i ∧ i + 6 ≤ (Γ.2.2.2.2.1 : Int)) (hN : Γ.2.2.2.2.1 ≤ 3072) (h : Rel9 g) (hb : 8 ≤ b) (next : ∀ (g' : GG) (b' : Nat), b - 4 ≤ b' → Rel9 g' → AW Γ l mL_law_ 60 b' 2539 [vR 4000, vR 1, vR 171, vR 190, vI i, vU, vU] [] (stt g') K) : AW Γ l mL_law_ 60 b 1562 [vR 4000, vR 1, vR 171, vR 190, vI i, vU, vU] [] (stt g) K := by
  refine aw_aload_n (k' := 1) (by decide +kernel) rfl ?_
  refine aw_callV (y := yX11_peace) (M2 := mX11_peace) (as := []) (S := []) (idx := 210) (t := 1) (d2 := 0 + 7) (b2 := 0) (b3 := b) cwX11_peace (tb_mem 415 (by decide +kernel) (by decide +kernel)) imX11_peace seX11_peace (by decide +kernel) rfl (ci := 9) rfl (OB.at (ci := 9) (show shp 1 = (19, 0) by decide +kernel) (by decide)) (by decide) (Nat.le_of_eq (Nat.zero_add _)) rfl rfl (by simp [oneSlot]) (Nat.le_of_ble_eq_true rfl) (Ct.mono (p_peace (Γ := Γ) (l := l) (d := 0)  h ).pa ?_)
  rintro o h' ⟨v, g1, ⟨rfl, rfl⟩, ha⟩
  show AW Γ l mL_law_ 60 b 1566 [vR 4000, vR 1, vR 171, vR 190, vI i, vU, vU] [vI v] (stt g1) K
  refine aw_aload_n (k' := 2) (by decide +kernel) rfl ?_
  refine aw_callV (y := yX12_peace) (M2 := mX12_peace) (as := []) (S := [vI v]) (idx := 213) (t := 171) (d2 := 0 + 8) (b2 := 0) (b3 := b) cwX12_peace (tb_mem 1873 (by decide +kernel) (by decide +kernel)) imX12_peace seX12_peace (by decide +kernel) rfl (ci := 10) rfl (OB.at (ci := 10) (show shp 171 = (20, 0) by decide +kernel) (by decide)) (by decide) (Nat.le_of_eq (Nat.zero_add _)) rfl rfl (by simp [oneSlot]) (Nat.le_of_ble_eq_true rfl) (Ct.mono (ha g1 (fun b9 g3 => b9 = v ∧ Rel9 g3) (fun _ _ _ => rfl) (fun g3 r f => ⟨rfl, r⟩)) ?_)
  rintro o h' ⟨b9, g3, ⟨rfl, rfl⟩, e9, r3⟩
  show AW Γ l mL_law_ 60 b 1570 [vR 4000, vR 1, vR 171, vR 190, vI i, vU, vU] [vI b9, vI v] (stt g3) K
  rw [e9]
  refine ax_icmp_eq (off := 969) (tgt := 2539) (x' := wr v) (y' := wr v) (by decide +kernel) (by decide) rfl rfl (fun hc8 => ?_) (fun hc8 => absurd rfl hc8)
  exact next g3 _ (by omega) r3
set_option maxHeartbeats 1000000 in
theorem lc_23 {Γ : Cfg} {l : Launch} {b : Nat} {i : Int} {g : GG} {K : Ou → HP → Prop} (hi : 0 ≤ i ∧ i + 6 ≤ (Γ.2.2.2.2.1 : Int)) (hN : Γ.2.2.2.2.1 ≤ 3072) (h : Rel9 g) (hb : 8 ≤ b) (next : ∀ (g' : GG) (b' : Nat), b - 4 ≤ b' → Rel9 g' → AW Γ l mL_law_ 60 b' 2539 [vR 4000, vR 1, vR 171, vR 190, vI i, vU, vU] [] (stt g') K) : AW Γ l mL_law_ 60 b 1575 [vR 4000, vR 1, vR 171, vR 190, vI i, vU, vU] [] (stt g) K := by
  refine aw_aload_n (k' := 1) (by decide +kernel) rfl ?_
  refine aw_callV (y := yX11_quiet) (M2 := mX11_quiet) (as := []) (S := []) (idx := 214) (t := 1) (d2 := 0 + 7) (b2 := 0) (b3 := b) cwX11_quiet (tb_mem 506 (by decide +kernel) (by decide +kernel)) imX11_quiet seX11_quiet (by decide +kernel) rfl (ci := 9) rfl (OB.at (ci := 9) (show shp 1 = (19, 0) by decide +kernel) (by decide)) (by decide) (Nat.le_of_eq (Nat.zero_add _)) rfl rfl (by simp [oneSlot]) (Nat.le_of_ble_eq_true rfl) (Ct.mono (p_quiet (Γ := Γ) (l := l) (d := 0)  h ).pa ?_)
  rintro o h' ⟨v, g1, ⟨rfl, rfl⟩, ha⟩
  show AW Γ l mL_law_ 60 b 1579 [vR 4000, vR 1, vR 171, vR 190, vI i, vU, vU] [vI v] (stt g1) K
  refine aw_aload_n (k' := 2) (by decide +kernel) rfl ?_
  refine aw_callV (y := yX12_quiet) (M2 := mX12_quiet) (as := []) (S := [vI v]) (idx := 217) (t := 171) (d2 := 0 + 8) (b2 := 0) (b3 := b) cwX12_quiet (tb_mem 1884 (by decide +kernel) (by decide +kernel)) imX12_quiet seX12_quiet (by decide +kernel) rfl (ci := 10) rfl (OB.at (ci := 10) (show shp 171 = (20, 0) by decide +kernel) (by decide)) (by decide) (Nat.le_of_eq (Nat.zero_add _)) rfl rfl (by simp [oneSlot]) (Nat.le_of_ble_eq_true rfl) (Ct.mono (ha g1 (fun b9 g3 => b9 = v ∧ Rel9 g3) (fun _ _ _ => rfl) (fun g3 r f => ⟨rfl, r⟩)) ?_)
  rintro o h' ⟨b9, g3, ⟨rfl, rfl⟩, e9, r3⟩
  show AW Γ l mL_law_ 60 b 1583 [vR 4000, vR 1, vR 171, vR 190, vI i, vU, vU] [vI b9, vI v] (stt g3) K
  rw [e9]
  refine ax_icmp_eq (off := 956) (tgt := 2539) (x' := wr v) (y' := wr v) (by decide +kernel) (by decide) rfl rfl (fun hc8 => ?_) (fun hc8 => absurd rfl hc8)
  exact next g3 _ (by omega) r3
set_option maxHeartbeats 1000000 in
theorem lc_24 {Γ : Cfg} {l : Launch} {b : Nat} {i : Int} {g : GG} {K : Ou → HP → Prop} (hi : 0 ≤ i ∧ i + 6 ≤ (Γ.2.2.2.2.1 : Int)) (hN : Γ.2.2.2.2.1 ≤ 3072) (h : Rel9 g) (hb : 8 ≤ b) (next : ∀ (g' : GG) (b' : Nat), b - 4 ≤ b' → Rel9 g' → AW Γ l mL_law_ 60 b' 2539 [vR 4000, vR 1, vR 171, vR 190, vI i, vU, vU] [] (stt g') K) : AW Γ l mL_law_ 60 b 1588 [vR 4000, vR 1, vR 171, vR 190, vI i, vU, vU] [] (stt g) K := by
  refine aw_aload_n (k' := 1) (by decide +kernel) rfl ?_
  refine aw_aload_n (k' := 3) (by decide +kernel) rfl ?_
  have T : ∀ (c v : Int) (g1 g2 : GG), PA [eIA] (fun g2 K => Ct Γ l (0 + 6) 0 yX12_whose mX12_whose [vR 171] (stt g2) K) c v g1 → lo9 g1 g2 → (c = 0 → g2 190 0 = wr v) → AW Γ l mL_law_ 60 (b - 1) 1593 [vR 4000, vR 1, vR 171, vR 190, vI i, vU, vU] [vI c] (stt g2) K := by
    intro c v g1 g2 ha hlo h190
    refine aw_istore (i := 5) (by decide +kernel) (by decide) ?_
    show AW Γ l mL_law_ 60 (b - 1) 1595 [vR 4000, vR 1, vR 171, vR 190, vI i, vI c, vU] [] (stt g2) K
    refine aw_aload_n (k' := 2) (by decide +kernel) rfl ?_
    refine aw_callV (y := yX12_whose) (M2 := mX12_whose) (as := []) (S := []) (idx := 220) (t := 171) (d2 := 0 + 6) (b2 := 0) (b3 := (b - 1)) cwX12_whose (tb_mem 1888 (by decide +kernel) (by decide +kernel)) imX12_whose seX12_whose (by decide +kernel) rfl (ci := 10) rfl (OB.at (ci := 10) (show shp 171 = (20, 0) by decide +kernel) (by decide)) (by decide) (Nat.le_of_eq (Nat.zero_add _)) rfl rfl (by simp [oneSlot]) (Nat.le_of_ble_eq_true rfl) (Ct.mono (ha.2 g2 (fun b9 g3 => Rel9 g3 ∧ g3 171 0 = c ∧ (c = 0 → b9 = v) ∧ g3 190 0 = g2 190 0) hlo (fun b9 g3 r z e f => ⟨r, z, e, f 0⟩)) ?_)
    rintro o h' ⟨b9, g3, ⟨rfl, rfl⟩, r3, z3, e3, f3⟩
    show AW Γ l mL_law_ 60 (b - 1) 1599 [vR 4000, vR 1, vR 171, vR 190, vI i, vI c, vU] [vI b9] (stt g3) K
    refine aw_istore (i := 6) (by decide +kernel) (by decide) ?_
    show AW Γ l mL_law_ 60 (b - 1) 1601 [vR 4000, vR 1, vR 171, vR 190, vI i, vI c, vI b9] [] (stt g3) K
    refine aw_aload_n (k' := 2) (by decide +kernel) rfl ?_
    refine aw_callV (y := yX12_thrown) (M2 := mX12_thrown) (as := []) (S := []) (idx := 145) (t := 171) (d2 := 0) (b2 := 0) (b3 := (b - 1)) cwX12_thrown (tb_mem 1322 (by decide +kernel) (by decide +kernel)) imX12_thrown seX12_thrown (by decide +kernel) rfl (ci := 10) rfl (OB.at (ci := 10) (show shp 171 = (20, 0) by decide +kernel) (by decide)) (by decide) (Nat.le_of_eq (Nat.zero_add _)) rfl rfl (by simp [oneSlot]) (Nat.le_of_ble_eq_true rfl) (wpX12_thrown ?_)
    show AW Γ l mL_law_ 60 (b - 1) 1605 [vR 4000, vR 1, vR 171, vR 190, vI i, vI c, vI b9] [vI (g3 171 0)] (stt g3) K
    refine aw_iload (i := 5) (by decide +kernel) rfl ?_
    refine ax_icmp_eq (off := 5) (tgt := 1612) (x' := wr (g3 171 0)) (y' := wr c) (by decide +kernel) (by decide) rfl rfl (fun hc8 => ?_) (fun hc8 => absurd (by rw [z3]) hc8)
    refine aw_iload (i := 5) (by decide +kernel) rfl ?_
    refine ax_if_ne (off := 15) (tgt := 1629) (x' := wr c) (by decide +kernel) (by decide) rfl (fun hc7 => ?_) (fun hc7 => ?_)
    · skip
      refine aw_goto (off := 910) (tgt := 2539) (by decide +kernel) (by decide) ?_
      exact AW.locals (next g3 _ (by omega) r3) drop7
    · have hcr : 0 ≤ c ∧ c ≤ 1 := ha.1
      have hc0 : c = 0 := by have := wr_id (x := c) (by omega) (by omega); omega
      refine aw_aload_n (k' := 3) (by decide +kernel) rfl ?_
      refine aw_iconst (n := 0) (by decide +kernel) ?_
      refine aw_lald (t := 190) (j := 0) (n := 1) (by decide +kernel) (isA_lit (show shp 190 = (3, 1) by decide +kernel) (by decide)) (by decide +kernel) (by decide +kernel) ?_
      rw [wr_0]
      refine aw_iload (i := 6) (by decide +kernel) rfl ?_
      refine aw_i2l (by decide +kernel) ?_
      refine aw_lcmp (by decide +kernel) ?_
      have e0 : lCmp (g3 190 0) (wr b9) = 0 := by rw [f3, h190 hc0, e3 hc0]; exact lCmp_self _
      rw [e0]
      refine ax_if_eq (off := 5) (tgt := 1629) (x' := 0) (by decide +kernel) (by decide) (by decide +kernel) (fun _ => ?_) (fun hc5 => absurd rfl hc5)
      refine aw_goto (off := 910) (tgt := 2539) (by decide +kernel) (by decide) ?_
      exact AW.locals (next g3 _ (by omega) r3) drop7
  refine aw_callSH (y := yL_whose) (M2 := mL_whose) (as := [vR 1, vR 190]) (S := []) (idx := 218) (d2 := 0 + 5 + 1) (b2 := 1) (b3 := (b - 1)) cwL_whose (tb_mem 1171 (by decide +kernel) (by decide +kernel)) stL_whose (by decide +kernel) rfl (by decide) (by omega) rfl rfl (by simp [oneSlot]) (Nat.le_of_ble_eq_true rfl) (w_whose (d2 := 0 + 5) (Nat.le_refl _) (fun c v g1 ha => ha.1) (p_whose (Γ := Γ) (l := l) (d := 0)  h ).pa (fun v g1 ha => T 0 v g1 _ ha lo9_out (fun _ => upd2_eq)) (fun c v g1 ha hc9 => T c v g1 g1 ha (fun _ _ _ => rfl) (fun z => absurd z (by omega))))
set_option maxHeartbeats 1000000 in
theorem lc_25 {Γ : Cfg} {l : Launch} {b : Nat} {i : Int} {g : GG} {K : Ou → HP → Prop} (hi : 0 ≤ i ∧ i + 6 ≤ (Γ.2.2.2.2.1 : Int)) (hN : Γ.2.2.2.2.1 ≤ 3072) (h : Rel9 g) (hb : 8 ≤ b) (next : ∀ (g' : GG) (b' : Nat), b - 4 ≤ b' → Rel9 g' → AW Γ l mL_law_ 60 b' 2539 [vR 4000, vR 1, vR 171, vR 190, vI i, vU, vU] [] (stt g') K) : AW Γ l mL_law_ 60 b 1632 [vR 4000, vR 1, vR 171, vR 190, vI i, vU, vU] [] (stt g) K := by
  refine aw_aload_n (k' := 1) (by decide +kernel) rfl ?_
  refine aw_aload_n (k' := 3) (by decide +kernel) rfl ?_
  have T : ∀ (c v : Int) (g1 g2 : GG), PA [eIA] (fun g2 K => Ct Γ l (0 + 6) 0 yX12_likely mX12_likely [vR 171] (stt g2) K) c v g1 → lo9 g1 g2 → (c = 0 → g2 190 0 = wr v) → AW Γ l mL_law_ 60 (b - 2) 1637 [vR 4000, vR 1, vR 171, vR 190, vI i, vU, vU] [vI c] (stt g2) K := by
    intro c v g1 g2 ha hlo h190
    refine aw_istore (i := 5) (by decide +kernel) (by decide) ?_
    show AW Γ l mL_law_ 60 (b - 2) 1639 [vR 4000, vR 1, vR 171, vR 190, vI i, vI c, vU] [] (stt g2) K
    refine aw_aload_n (k' := 2) (by decide +kernel) rfl ?_
    refine aw_callV (y := yX12_likely) (M2 := mX12_likely) (as := []) (S := []) (idx := 223) (t := 171) (d2 := 0 + 6) (b2 := 0) (b3 := (b - 2)) cwX12_likely (tb_mem 1908 (by decide +kernel) (by decide +kernel)) imX12_likely seX12_likely (by decide +kernel) rfl (ci := 10) rfl (OB.at (ci := 10) (show shp 171 = (20, 0) by decide +kernel) (by decide)) (by decide) (Nat.le_of_eq (Nat.zero_add _)) rfl rfl (by simp [oneSlot]) (Nat.le_of_ble_eq_true rfl) (Ct.mono (ha.2 g2 (fun b9 g3 => Rel9 g3 ∧ g3 171 0 = c ∧ (c = 0 → b9 = v) ∧ g3 190 0 = g2 190 0) hlo (fun b9 g3 r z e f => ⟨r, z, e, f 0⟩)) ?_)
    rintro o h' ⟨b9, g3, ⟨rfl, rfl⟩, r3, z3, e3, f3⟩
    show AW Γ l mL_law_ 60 (b - 2) 1643 [vR 4000, vR 1, vR 171, vR 190, vI i, vI c, vU] [vI b9] (stt g3) K
    refine aw_istore (i := 6) (by decide +kernel) (by decide) ?_
    show AW Γ l mL_law_ 60 (b - 2) 1645 [vR 4000, vR 1, vR 171, vR 190, vI i, vI c, vI b9] [] (stt g3) K
    refine aw_aload_n (k' := 2) (by decide +kernel) rfl ?_
    refine aw_callV (y := yX12_thrown) (M2 := mX12_thrown) (as := []) (S := []) (idx := 145) (t := 171) (d2 := 0) (b2 := 0) (b3 := (b - 2)) cwX12_thrown (tb_mem 1322 (by decide +kernel) (by decide +kernel)) imX12_thrown seX12_thrown (by decide +kernel) rfl (ci := 10) rfl (OB.at (ci := 10) (show shp 171 = (20, 0) by decide +kernel) (by decide)) (by decide) (Nat.le_of_eq (Nat.zero_add _)) rfl rfl (by simp [oneSlot]) (Nat.le_of_ble_eq_true rfl) (wpX12_thrown ?_)
    show AW Γ l mL_law_ 60 (b - 2) 1649 [vR 4000, vR 1, vR 171, vR 190, vI i, vI c, vI b9] [vI (g3 171 0)] (stt g3) K
    refine aw_iload (i := 5) (by decide +kernel) rfl ?_
    refine ax_icmp_eq (off := 5) (tgt := 1656) (x' := wr (g3 171 0)) (y' := wr c) (by decide +kernel) (by decide) rfl rfl (fun hc8 => ?_) (fun hc8 => absurd (by rw [z3]) hc8)
    refine aw_iload (i := 5) (by decide +kernel) rfl ?_
    refine ax_if_ne (off := 15) (tgt := 1673) (x' := wr c) (by decide +kernel) (by decide) rfl (fun hc7 => ?_) (fun hc7 => ?_)
    · skip
      refine aw_goto (off := 866) (tgt := 2539) (by decide +kernel) (by decide) ?_
      exact AW.locals (next g3 _ (by omega) r3) drop7
    · have hcr : 0 ≤ c ∧ c ≤ 1 := ha.1
      have hc0 : c = 0 := by have := wr_id (x := c) (by omega) (by omega); omega
      refine aw_aload_n (k' := 3) (by decide +kernel) rfl ?_
      refine aw_iconst (n := 0) (by decide +kernel) ?_
      refine aw_lald (t := 190) (j := 0) (n := 1) (by decide +kernel) (isA_lit (show shp 190 = (3, 1) by decide +kernel) (by decide)) (by decide +kernel) (by decide +kernel) ?_
      rw [wr_0]
      refine aw_iload (i := 6) (by decide +kernel) rfl ?_
      refine aw_i2l (by decide +kernel) ?_
      refine aw_lcmp (by decide +kernel) ?_
      have e0 : lCmp (g3 190 0) (wr b9) = 0 := by rw [f3, h190 hc0, e3 hc0]; exact lCmp_self _
      rw [e0]
      refine ax_if_eq (off := 5) (tgt := 1673) (x' := 0) (by decide +kernel) (by decide) (by decide +kernel) (fun _ => ?_) (fun hc5 => absurd rfl hc5)
      refine aw_goto (off := 866) (tgt := 2539) (by decide +kernel) (by decide) ?_
      exact AW.locals (next g3 _ (by omega) r3) drop7
  refine aw_callSH (y := yL_likely) (M2 := mL_likely) (as := [vR 1, vR 190]) (S := []) (idx := 221) (d2 := 0 + 5 + 1) (b2 := 2) (b3 := (b - 2)) cwL_likely (tb_mem 1192 (by decide +kernel) (by decide +kernel)) stL_likely (by decide +kernel) rfl (by decide) (by omega) rfl rfl (by simp [oneSlot]) (Nat.le_of_ble_eq_true rfl) (w_likely (d2 := 0 + 5) (Nat.le_refl _) (fun c v g1 ha => ha.1) (p_likely (Γ := Γ) (l := l) (d := 0)  h ).pa (fun v g1 ha => T 0 v g1 _ ha lo9_out (fun _ => upd2_eq)) (fun c v g1 ha hc9 => T c v g1 g1 ha (fun _ _ _ => rfl) (fun z => absurd z (by omega))))
set_option maxHeartbeats 1000000 in
theorem lc_26 {Γ : Cfg} {l : Launch} {b : Nat} {i : Int} {g : GG} {K : Ou → HP → Prop} (hi : 0 ≤ i ∧ i + 6 ≤ (Γ.2.2.2.2.1 : Int)) (hN : Γ.2.2.2.2.1 ≤ 3072) (h : Rel9 g) (hb : 8 ≤ b) (next : ∀ (g' : GG) (b' : Nat), b - 4 ≤ b' → Rel9 g' → AW Γ l mL_law_ 60 b' 2539 [vR 4000, vR 1, vR 171, vR 190, vI i, vU, vU] [] (stt g') K) : AW Γ l mL_law_ 60 b 1676 [vR 4000, vR 1, vR 171, vR 190, vI i, vU, vU] [] (stt g) K := by
  refine aw_aload_n (k' := 1) (by decide +kernel) rfl ?_
  refine aw_aload_n (k' := 3) (by decide +kernel) rfl ?_
  have T : ∀ (c v : Int) (g1 g2 : GG), PA [eIA] (fun g2 K => Ct Γ l (0 + 6) 0 yX12_ask mX12_ask [vR 171] (stt g2) K) c v g1 → lo9 g1 g2 → (c = 0 → g2 190 0 = wr v) → AW Γ l mL_law_ 60 (b - 2) 1681 [vR 4000, vR 1, vR 171, vR 190, vI i, vU, vU] [vI c] (stt g2) K := by
    intro c v g1 g2 ha hlo h190
    refine aw_istore (i := 5) (by decide +kernel) (by decide) ?_
    show AW Γ l mL_law_ 60 (b - 2) 1683 [vR 4000, vR 1, vR 171, vR 190, vI i, vI c, vU] [] (stt g2) K
    refine aw_aload_n (k' := 2) (by decide +kernel) rfl ?_
    refine aw_callV (y := yX12_ask) (M2 := mX12_ask) (as := []) (S := []) (idx := 226) (t := 171) (d2 := 0 + 6) (b2 := 0) (b3 := (b - 2)) cwX12_ask (tb_mem 1915 (by decide +kernel) (by decide +kernel)) imX12_ask seX12_ask (by decide +kernel) rfl (ci := 10) rfl (OB.at (ci := 10) (show shp 171 = (20, 0) by decide +kernel) (by decide)) (by decide) (Nat.le_of_eq (Nat.zero_add _)) rfl rfl (by simp [oneSlot]) (Nat.le_of_ble_eq_true rfl) (Ct.mono (ha.2 g2 (fun b9 g3 => Rel9 g3 ∧ g3 171 0 = c ∧ (c = 0 → b9 = v) ∧ g3 190 0 = g2 190 0) hlo (fun b9 g3 r z e f => ⟨r, z, e, f 0⟩)) ?_)
    rintro o h' ⟨b9, g3, ⟨rfl, rfl⟩, r3, z3, e3, f3⟩
    show AW Γ l mL_law_ 60 (b - 2) 1687 [vR 4000, vR 1, vR 171, vR 190, vI i, vI c, vU] [vI b9] (stt g3) K
    refine aw_istore (i := 6) (by decide +kernel) (by decide) ?_
    show AW Γ l mL_law_ 60 (b - 2) 1689 [vR 4000, vR 1, vR 171, vR 190, vI i, vI c, vI b9] [] (stt g3) K
    refine aw_aload_n (k' := 2) (by decide +kernel) rfl ?_
    refine aw_callV (y := yX12_thrown) (M2 := mX12_thrown) (as := []) (S := []) (idx := 145) (t := 171) (d2 := 0) (b2 := 0) (b3 := (b - 2)) cwX12_thrown (tb_mem 1322 (by decide +kernel) (by decide +kernel)) imX12_thrown seX12_thrown (by decide +kernel) rfl (ci := 10) rfl (OB.at (ci := 10) (show shp 171 = (20, 0) by decide +kernel) (by decide)) (by decide) (Nat.le_of_eq (Nat.zero_add _)) rfl rfl (by simp [oneSlot]) (Nat.le_of_ble_eq_true rfl) (wpX12_thrown ?_)
    show AW Γ l mL_law_ 60 (b - 2) 1693 [vR 4000, vR 1, vR 171, vR 190, vI i, vI c, vI b9] [vI (g3 171 0)] (stt g3) K
    refine aw_iload (i := 5) (by decide +kernel) rfl ?_
    refine ax_icmp_eq (off := 5) (tgt := 1700) (x' := wr (g3 171 0)) (y' := wr c) (by decide +kernel) (by decide) rfl rfl (fun hc8 => ?_) (fun hc8 => absurd (by rw [z3]) hc8)
    refine aw_iload (i := 5) (by decide +kernel) rfl ?_
    refine ax_if_ne (off := 15) (tgt := 1717) (x' := wr c) (by decide +kernel) (by decide) rfl (fun hc7 => ?_) (fun hc7 => ?_)
    · skip
      refine aw_goto (off := 822) (tgt := 2539) (by decide +kernel) (by decide) ?_
      exact AW.locals (next g3 _ (by omega) r3) drop7
    · have hcr : 0 ≤ c ∧ c ≤ 1 := ha.1
      have hc0 : c = 0 := by have := wr_id (x := c) (by omega) (by omega); omega
      refine aw_aload_n (k' := 3) (by decide +kernel) rfl ?_
      refine aw_iconst (n := 0) (by decide +kernel) ?_
      refine aw_lald (t := 190) (j := 0) (n := 1) (by decide +kernel) (isA_lit (show shp 190 = (3, 1) by decide +kernel) (by decide)) (by decide +kernel) (by decide +kernel) ?_
      rw [wr_0]
      refine aw_iload (i := 6) (by decide +kernel) rfl ?_
      refine aw_i2l (by decide +kernel) ?_
      refine aw_lcmp (by decide +kernel) ?_
      have e0 : lCmp (g3 190 0) (wr b9) = 0 := by rw [f3, h190 hc0, e3 hc0]; exact lCmp_self _
      rw [e0]
      refine ax_if_eq (off := 5) (tgt := 1717) (x' := 0) (by decide +kernel) (by decide) (by decide +kernel) (fun _ => ?_) (fun hc5 => absurd rfl hc5)
      refine aw_goto (off := 822) (tgt := 2539) (by decide +kernel) (by decide) ?_
      exact AW.locals (next g3 _ (by omega) r3) drop7
  refine aw_callSH (y := yL_ask) (M2 := mL_ask) (as := [vR 1, vR 190]) (S := []) (idx := 224) (d2 := 0 + 5 + 1) (b2 := 2) (b3 := (b - 2)) cwL_ask (tb_mem 1199 (by decide +kernel) (by decide +kernel)) stL_ask (by decide +kernel) rfl (by decide) (by omega) rfl rfl (by simp [oneSlot]) (Nat.le_of_ble_eq_true rfl) (w_ask (d2 := 0 + 5) (Nat.le_refl _) (fun c v g1 ha => ha.1) (p_ask (Γ := Γ) (l := l) (d := 0)  h ).pa (fun v g1 ha => T 0 v g1 _ ha lo9_out (fun _ => upd2_eq)) (fun c v g1 ha hc9 => T c v g1 g1 ha (fun _ _ _ => rfl) (fun z => absurd z (by omega))))
set_option maxHeartbeats 1000000 in
theorem lc_27 {Γ : Cfg} {l : Launch} {b : Nat} {i : Int} {g : GG} {K : Ou → HP → Prop} (hi : 0 ≤ i ∧ i + 6 ≤ (Γ.2.2.2.2.1 : Int)) (hN : Γ.2.2.2.2.1 ≤ 3072) (h : Rel9 g) (hb : 8 ≤ b) (next : ∀ (g' : GG) (b' : Nat), b - 4 ≤ b' → Rel9 g' → AW Γ l mL_law_ 60 b' 2539 [vR 4000, vR 1, vR 171, vR 190, vI i, vU, vU] [] (stt g') K) : AW Γ l mL_law_ 60 b 1720 [vR 4000, vR 1, vR 171, vR 190, vI i, vU, vU] [] (stt g) K := by
  refine aw_aload_n (k' := 1) (by decide +kernel) rfl ?_
  refine aw_aload_n (k' := 0) (by decide +kernel) rfl ?_
  refine aw_iload (i := 4) (by decide +kernel) rfl ?_
  refine aw_iconst (n := 1) (by decide +kernel) ?_
  refine aw_iadd (by decide +kernel) ?_
  refine aw_sld (x' := i + 1) (by decide +kernel) (wr_id (by omega) (by omega)) (by omega) ?_
  refine aw_aload_n (k' := 3) (by decide +kernel) rfl ?_
  have T : ∀ (c v : Int) (g1 g2 : GG), PA [eIA] (fun g2 K => Ct Γ l (0 + 2) 0 yX12_coughs mX12_coughs [vR 171, vI (SC Γ (i + 1))] (stt g2) K) c v g1 → lo9 g1 g2 → (c = 0 → g2 190 0 = (if wr v = 0 then 0 else 1)) → AW Γ l mL_law_ 60 (b - 1) 1731 [vR 4000, vR 1, vR 171, vR 190, vI i, vU, vU] [vI c] (stt g2) K := by
    intro c v g1 g2 ha hlo h190
    refine aw_istore (i := 5) (by decide +kernel) (by decide) ?_
    show AW Γ l mL_law_ 60 (b - 1) 1733 [vR 4000, vR 1, vR 171, vR 190, vI i, vI c, vU] [] (stt g2) K
    refine aw_aload_n (k' := 2) (by decide +kernel) rfl ?_
    refine aw_aload_n (k' := 0) (by decide +kernel) rfl ?_
    refine aw_iload (i := 4) (by decide +kernel) rfl ?_
    refine aw_iconst (n := 1) (by decide +kernel) ?_
    refine aw_iadd (by decide +kernel) ?_
    refine aw_sld (x' := i + 1) (by decide +kernel) (wr_id (by omega) (by omega)) (by omega) ?_
    refine aw_callV (y := yX12_coughs) (M2 := mX12_coughs) (as := [vI (SC Γ (i + 1))]) (S := []) (idx := 229) (t := 171) (d2 := 0 + 2) (b2 := 0) (b3 := (b - 1)) cwX12_coughs (tb_mem 1923 (by decide +kernel) (by decide +kernel)) imX12_coughs seX12_coughs (by decide +kernel) rfl (ci := 10) rfl (OB.at (ci := 10) (show shp 171 = (20, 0) by decide +kernel) (by decide)) (by decide) (Nat.le_of_eq (Nat.zero_add _)) rfl rfl (by simp [oneSlot]) (Nat.le_of_ble_eq_true rfl) (Ct.mono (ha.2 g2 (fun b9 g3 => Rel9 g3 ∧ g3 171 0 = c ∧ (c = 0 → b9 = v) ∧ g3 190 0 = g2 190 0) hlo (fun b9 g3 r z e f => ⟨r, z, e, f 0⟩)) ?_)
    rintro o h' ⟨b9, g3, ⟨rfl, rfl⟩, r3, z3, e3, f3⟩
    show AW Γ l mL_law_ 60 (b - 1) 1743 [vR 4000, vR 1, vR 171, vR 190, vI i, vI c, vU] [vI b9] (stt g3) K
    refine aw_istore (i := 6) (by decide +kernel) (by decide) ?_
    show AW Γ l mL_law_ 60 (b - 1) 1745 [vR 4000, vR 1, vR 171, vR 190, vI i, vI c, vI b9] [] (stt g3) K
    refine aw_aload_n (k' := 2) (by decide +kernel) rfl ?_
    refine aw_callV (y := yX12_thrown) (M2 := mX12_thrown) (as := []) (S := []) (idx := 145) (t := 171) (d2 := 0) (b2 := 0) (b3 := (b - 1)) cwX12_thrown (tb_mem 1322 (by decide +kernel) (by decide +kernel)) imX12_thrown seX12_thrown (by decide +kernel) rfl (ci := 10) rfl (OB.at (ci := 10) (show shp 171 = (20, 0) by decide +kernel) (by decide)) (by decide) (Nat.le_of_eq (Nat.zero_add _)) rfl rfl (by simp [oneSlot]) (Nat.le_of_ble_eq_true rfl) (wpX12_thrown ?_)
    show AW Γ l mL_law_ 60 (b - 1) 1749 [vR 4000, vR 1, vR 171, vR 190, vI i, vI c, vI b9] [vI (g3 171 0)] (stt g3) K
    refine aw_iload (i := 5) (by decide +kernel) rfl ?_
    refine ax_icmp_eq (off := 5) (tgt := 1756) (x' := wr (g3 171 0)) (y' := wr c) (by decide +kernel) (by decide) rfl rfl (fun hc8 => ?_) (fun hc8 => absurd (by rw [z3]) hc8)
    refine aw_iload (i := 5) (by decide +kernel) rfl ?_
    refine ax_if_ne (off := 22) (tgt := 1780) (x' := wr c) (by decide +kernel) (by decide) rfl (fun hc7 => ?_) (fun hc7 => ?_)
    · skip
      refine aw_goto (off := 759) (tgt := 2539) (by decide +kernel) (by decide) ?_
      exact AW.locals (next g3 _ (by omega) r3) drop7
    · have hcr : 0 ≤ c ∧ c ≤ 1 := ha.1
      have hc0 : c = 0 := by have := wr_id (x := c) (by omega) (by omega); omega
      refine aw_aload_n (k' := 3) (by decide +kernel) rfl ?_
      refine aw_iconst (n := 0) (by decide +kernel) ?_
      refine aw_lald (t := 190) (j := 0) (n := 1) (by decide +kernel) (isA_lit (show shp 190 = (3, 1) by decide +kernel) (by decide)) (by decide +kernel) (by decide +kernel) ?_
      rw [wr_0]
      refine aw_iload (i := 6) (by decide +kernel) rfl ?_
      refine ax_if_eq (off := 7) (tgt := 1773) (x' := wr b9) (by decide +kernel) (by decide) rfl (fun hc6 => ?_) (fun hc6 => ?_)
      · skip
        refine aw_lconst (n := 0) (by decide +kernel) ?_
        show AW Γ l mL_law_ 60 (b - 1) 1774 [vR 4000, vR 1, vR 171, vR 190, vI i, vI c, vI b9] [vL 0, vL (g3 190 0)] (stt g3) K
        refine aw_lcmp (by decide +kernel) ?_
        have e0 : lCmp (g3 190 0) (0) = 0 := by rw [f3, h190 hc0, ← e3 hc0, if_pos hc6]; exact lCmp_self _
        rw [e0]
        refine ax_if_eq (off := 5) (tgt := 1780) (x' := 0) (by decide +kernel) (by decide) (by decide +kernel) (fun _ => ?_) (fun hc5 => absurd rfl hc5)
        refine aw_goto (off := 759) (tgt := 2539) (by decide +kernel) (by decide) ?_
        exact AW.locals (next g3 _ (by omega) r3) drop7
      · skip
        refine aw_lconst (n := 1) (by decide +kernel) ?_
        show AW Γ l mL_law_ 60 (b - 1) 1770 [vR 4000, vR 1, vR 171, vR 190, vI i, vI c, vI b9] [vL 1, vL (g3 190 0)] (stt g3) K
        refine aw_goto (off := 4) (tgt := 1774) (by decide +kernel) (by decide) ?_
        refine aw_lcmp (by decide +kernel) ?_
        have e0 : lCmp (g3 190 0) (1) = 0 := by rw [f3, h190 hc0, ← e3 hc0, if_neg hc6]; exact lCmp_self _
        rw [e0]
        refine ax_if_eq (off := 5) (tgt := 1780) (x' := 0) (by decide +kernel) (by decide) (by decide +kernel) (fun _ => ?_) (fun hc5 => absurd rfl hc5)
        refine aw_goto (off := 759) (tgt := 2539) (by decide +kernel) (by decide) ?_
        exact AW.locals (next g3 _ (by omega) r3) drop7
  refine aw_callSH (y := yL_coughs) (M2 := mL_coughs) (as := [vR 1, vI (SC Γ (i + 1)), vR 190]) (S := []) (idx := 227) (d2 := 0 + 2 + 1) (b2 := 1) (b3 := (b - 1)) cwL_coughs (tb_mem 1211 (by decide +kernel) (by decide +kernel)) stL_coughs (by decide +kernel) rfl (by decide) (by omega) rfl rfl (by simp [oneSlot]) (Nat.le_of_ble_eq_true rfl) (w_coughs (d2 := 0 + 2) (Nat.le_refl _) (fun c v g1 ha => ha.1) (p_coughs (Γ := Γ) (l := l) (d := 0) (x := SC Γ (i + 1)) h (wr_SC _)).pa (fun v g1 ha => T 0 v g1 _ ha lo9_out (fun _ => upd2_eq)) (fun c v g1 ha hc9 => T c v g1 g1 ha (fun _ _ _ => rfl) (fun z => absurd z (by omega))))
set_option maxHeartbeats 1000000 in
theorem lc_28 {Γ : Cfg} {l : Launch} {b : Nat} {i : Int} {g : GG} {K : Ou → HP → Prop} (hi : 0 ≤ i ∧ i + 6 ≤ (Γ.2.2.2.2.1 : Int)) (hN : Γ.2.2.2.2.1 ≤ 3072) (h : Rel9 g) (hb : 8 ≤ b) (next : ∀ (g' : GG) (b' : Nat), b - 4 ≤ b' → Rel9 g' → AW Γ l mL_law_ 60 b' 2539 [vR 4000, vR 1, vR 171, vR 190, vI i, vU, vU] [] (stt g') K) : AW Γ l mL_law_ 60 b 1783 [vR 4000, vR 1, vR 171, vR 190, vI i, vU, vU] [] (stt g) K := by
  refine aw_aload_n (k' := 1) (by decide +kernel) rfl ?_
  refine aw_aload_n (k' := 0) (by decide +kernel) rfl ?_
  refine aw_iload (i := 4) (by decide +kernel) rfl ?_
  refine aw_iconst (n := 1) (by decide +kernel) ?_
  refine aw_iadd (by decide +kernel) ?_
  refine aw_sld (x' := i + 1) (by decide +kernel) (wr_id (by omega) (by omega)) (by omega) ?_
  refine aw_aload_n (k' := 3) (by decide +kernel) rfl ?_
  have T : ∀ (c v : Int) (g1 g2 : GG), PA [eIA] (fun g2 K => Ct Γ l (0 + 2) 0 yX12_first mX12_first [vR 171, vI (SC Γ (i + 1))] (stt g2) K) c v g1 → lo9 g1 g2 → (c = 0 → g2 190 0 = wr v) → AW Γ l mL_law_ 60 (b - 1) 1794 [vR 4000, vR 1, vR 171, vR 190, vI i, vU, vU] [vI c] (stt g2) K := by
    intro c v g1 g2 ha hlo h190
    refine aw_istore (i := 5) (by decide +kernel) (by decide) ?_
    show AW Γ l mL_law_ 60 (b - 1) 1796 [vR 4000, vR 1, vR 171, vR 190, vI i, vI c, vU] [] (stt g2) K
    refine aw_aload_n (k' := 2) (by decide +kernel) rfl ?_
    refine aw_aload_n (k' := 0) (by decide +kernel) rfl ?_
    refine aw_iload (i := 4) (by decide +kernel) rfl ?_
    refine aw_iconst (n := 1) (by decide +kernel) ?_
    refine aw_iadd (by decide +kernel) ?_
    refine aw_sld (x' := i + 1) (by decide +kernel) (wr_id (by omega) (by omega)) (by omega) ?_
    refine aw_callV (y := yX12_first) (M2 := mX12_first) (as := [vI (SC Γ (i + 1))]) (S := []) (idx := 232) (t := 171) (d2 := 0 + 2) (b2 := 0) (b3 := (b - 1)) cwX12_first (tb_mem 1935 (by decide +kernel) (by decide +kernel)) imX12_first seX12_first (by decide +kernel) rfl (ci := 10) rfl (OB.at (ci := 10) (show shp 171 = (20, 0) by decide +kernel) (by decide)) (by decide) (Nat.le_of_eq (Nat.zero_add _)) rfl rfl (by simp [oneSlot]) (Nat.le_of_ble_eq_true rfl) (Ct.mono (ha.2 g2 (fun b9 g3 => Rel9 g3 ∧ g3 171 0 = c ∧ (c = 0 → b9 = v) ∧ g3 190 0 = g2 190 0) hlo (fun b9 g3 r z e f => ⟨r, z, e, f 0⟩)) ?_)
    rintro o h' ⟨b9, g3, ⟨rfl, rfl⟩, r3, z3, e3, f3⟩
    show AW Γ l mL_law_ 60 (b - 1) 1806 [vR 4000, vR 1, vR 171, vR 190, vI i, vI c, vU] [vI b9] (stt g3) K
    refine aw_istore (i := 6) (by decide +kernel) (by decide) ?_
    show AW Γ l mL_law_ 60 (b - 1) 1808 [vR 4000, vR 1, vR 171, vR 190, vI i, vI c, vI b9] [] (stt g3) K
    refine aw_aload_n (k' := 2) (by decide +kernel) rfl ?_
    refine aw_callV (y := yX12_thrown) (M2 := mX12_thrown) (as := []) (S := []) (idx := 145) (t := 171) (d2 := 0) (b2 := 0) (b3 := (b - 1)) cwX12_thrown (tb_mem 1322 (by decide +kernel) (by decide +kernel)) imX12_thrown seX12_thrown (by decide +kernel) rfl (ci := 10) rfl (OB.at (ci := 10) (show shp 171 = (20, 0) by decide +kernel) (by decide)) (by decide) (Nat.le_of_eq (Nat.zero_add _)) rfl rfl (by simp [oneSlot]) (Nat.le_of_ble_eq_true rfl) (wpX12_thrown ?_)
    show AW Γ l mL_law_ 60 (b - 1) 1812 [vR 4000, vR 1, vR 171, vR 190, vI i, vI c, vI b9] [vI (g3 171 0)] (stt g3) K
    refine aw_iload (i := 5) (by decide +kernel) rfl ?_
    refine ax_icmp_eq (off := 5) (tgt := 1819) (x' := wr (g3 171 0)) (y' := wr c) (by decide +kernel) (by decide) rfl rfl (fun hc8 => ?_) (fun hc8 => absurd (by rw [z3]) hc8)
    refine aw_iload (i := 5) (by decide +kernel) rfl ?_
    refine ax_if_ne (off := 15) (tgt := 1836) (x' := wr c) (by decide +kernel) (by decide) rfl (fun hc7 => ?_) (fun hc7 => ?_)
    · skip
      refine aw_goto (off := 703) (tgt := 2539) (by decide +kernel) (by decide) ?_
      exact AW.locals (next g3 _ (by omega) r3) drop7
    · have hcr : 0 ≤ c ∧ c ≤ 1 := ha.1
      have hc0 : c = 0 := by have := wr_id (x := c) (by omega) (by omega); omega
      refine aw_aload_n (k' := 3) (by decide +kernel) rfl ?_
      refine aw_iconst (n := 0) (by decide +kernel) ?_
      refine aw_lald (t := 190) (j := 0) (n := 1) (by decide +kernel) (isA_lit (show shp 190 = (3, 1) by decide +kernel) (by decide)) (by decide +kernel) (by decide +kernel) ?_
      rw [wr_0]
      refine aw_iload (i := 6) (by decide +kernel) rfl ?_
      refine aw_i2l (by decide +kernel) ?_
      refine aw_lcmp (by decide +kernel) ?_
      have e0 : lCmp (g3 190 0) (wr b9) = 0 := by rw [f3, h190 hc0, e3 hc0]; exact lCmp_self _
      rw [e0]
      refine ax_if_eq (off := 5) (tgt := 1836) (x' := 0) (by decide +kernel) (by decide) (by decide +kernel) (fun _ => ?_) (fun hc5 => absurd rfl hc5)
      refine aw_goto (off := 703) (tgt := 2539) (by decide +kernel) (by decide) ?_
      exact AW.locals (next g3 _ (by omega) r3) drop7
  refine aw_callSH (y := yL_first) (M2 := mL_first) (as := [vR 1, vI (SC Γ (i + 1)), vR 190]) (S := []) (idx := 230) (d2 := 0 + 2 + 1) (b2 := 1) (b3 := (b - 1)) cwL_first (tb_mem 1229 (by decide +kernel) (by decide +kernel)) stL_first (by decide +kernel) rfl (by decide) (by omega) rfl rfl (by simp [oneSlot]) (Nat.le_of_ble_eq_true rfl) (w_first (d2 := 0 + 2) (Nat.le_refl _) (fun c v g1 ha => ha.1) (p_first (Γ := Γ) (l := l) (d := 0) (x := SC Γ (i + 1)) h (wr_SC _)).pa (fun v g1 ha => T 0 v g1 _ ha lo9_out (fun _ => upd2_eq)) (fun c v g1 ha hc9 => T c v g1 g1 ha (fun _ _ _ => rfl) (fun z => absurd z (by omega))))
set_option maxHeartbeats 1000000 in
theorem lc_29 {Γ : Cfg} {l : Launch} {b : Nat} {i : Int} {g : GG} {K : Ou → HP → Prop} (hi : 0 ≤ i ∧ i + 6 ≤ (Γ.2.2.2.2.1 : Int)) (hN : Γ.2.2.2.2.1 ≤ 3072) (h : Rel9 g) (hb : 8 ≤ b) (next : ∀ (g' : GG) (b' : Nat), b - 4 ≤ b' → Rel9 g' → AW Γ l mL_law_ 60 b' 2539 [vR 4000, vR 1, vR 171, vR 190, vI i, vU, vU] [] (stt g') K) : AW Γ l mL_law_ 60 b 1839 [vR 4000, vR 1, vR 171, vR 190, vI i, vU, vU] [] (stt g) K := by
  refine aw_aload_n (k' := 1) (by decide +kernel) rfl ?_
  refine aw_aload_n (k' := 0) (by decide +kernel) rfl ?_
  refine aw_iload (i := 4) (by decide +kernel) rfl ?_
  refine aw_iconst (n := 1) (by decide +kernel) ?_
  refine aw_iadd (by decide +kernel) ?_
  refine aw_sld (x' := i + 1) (by decide +kernel) (wr_id (by omega) (by omega)) (by omega) ?_
  refine aw_aload_n (k' := 3) (by decide +kernel) rfl ?_
  have T : ∀ (c v : Int) (g1 g2 : GG), PA [eIO] (fun g2 K => Ct Γ l (0 + 6) 0 yX12_pairs mX12_pairs [vR 171, vI (SC Γ (i + 1))] (stt g2) K) c v g1 → lo9 g1 g2 → (c = 0 → g2 190 0 = wr v) → AW Γ l mL_law_ 60 (b - 1) 1850 [vR 4000, vR 1, vR 171, vR 190, vI i, vU, vU] [vI c] (stt g2) K := by
    intro c v g1 g2 ha hlo h190
    refine aw_istore (i := 5) (by decide +kernel) (by decide) ?_
    show AW Γ l mL_law_ 60 (b - 1) 1852 [vR 4000, vR 1, vR 171, vR 190, vI i, vI c, vU] [] (stt g2) K
    refine aw_aload_n (k' := 2) (by decide +kernel) rfl ?_
    refine aw_aload_n (k' := 0) (by decide +kernel) rfl ?_
    refine aw_iload (i := 4) (by decide +kernel) rfl ?_
    refine aw_iconst (n := 1) (by decide +kernel) ?_
    refine aw_iadd (by decide +kernel) ?_
    refine aw_sld (x' := i + 1) (by decide +kernel) (wr_id (by omega) (by omega)) (by omega) ?_
    refine aw_callV (y := yX12_pairs) (M2 := mX12_pairs) (as := [vI (SC Γ (i + 1))]) (S := []) (idx := 235) (t := 171) (d2 := 0 + 6) (b2 := 0) (b3 := (b - 1)) cwX12_pairs (tb_mem 1939 (by decide +kernel) (by decide +kernel)) imX12_pairs seX12_pairs (by decide +kernel) rfl (ci := 10) rfl (OB.at (ci := 10) (show shp 171 = (20, 0) by decide +kernel) (by decide)) (by decide) (Nat.le_of_eq (Nat.zero_add _)) rfl rfl (by simp [oneSlot]) (Nat.le_of_ble_eq_true rfl) (Ct.mono (ha.2 g2 (fun b9 g3 => Rel9 g3 ∧ g3 171 0 = c ∧ (c = 0 → b9 = v) ∧ g3 190 0 = g2 190 0) hlo (fun b9 g3 r z e f => ⟨r, z, e, f 0⟩)) ?_)
    rintro o h' ⟨b9, g3, ⟨rfl, rfl⟩, r3, z3, e3, f3⟩
    show AW Γ l mL_law_ 60 (b - 1) 1862 [vR 4000, vR 1, vR 171, vR 190, vI i, vI c, vU] [vI b9] (stt g3) K
    refine aw_istore (i := 6) (by decide +kernel) (by decide) ?_
    show AW Γ l mL_law_ 60 (b - 1) 1864 [vR 4000, vR 1, vR 171, vR 190, vI i, vI c, vI b9] [] (stt g3) K
    refine aw_aload_n (k' := 2) (by decide +kernel) rfl ?_
    refine aw_callV (y := yX12_thrown) (M2 := mX12_thrown) (as := []) (S := []) (idx := 145) (t := 171) (d2 := 0) (b2 := 0) (b3 := (b - 1)) cwX12_thrown (tb_mem 1322 (by decide +kernel) (by decide +kernel)) imX12_thrown seX12_thrown (by decide +kernel) rfl (ci := 10) rfl (OB.at (ci := 10) (show shp 171 = (20, 0) by decide +kernel) (by decide)) (by decide) (Nat.le_of_eq (Nat.zero_add _)) rfl rfl (by simp [oneSlot]) (Nat.le_of_ble_eq_true rfl) (wpX12_thrown ?_)
    show AW Γ l mL_law_ 60 (b - 1) 1868 [vR 4000, vR 1, vR 171, vR 190, vI i, vI c, vI b9] [vI (g3 171 0)] (stt g3) K
    refine aw_iload (i := 5) (by decide +kernel) rfl ?_
    refine ax_icmp_eq (off := 5) (tgt := 1875) (x' := wr (g3 171 0)) (y' := wr c) (by decide +kernel) (by decide) rfl rfl (fun hc8 => ?_) (fun hc8 => absurd (by rw [z3]) hc8)
    refine aw_iload (i := 5) (by decide +kernel) rfl ?_
    refine ax_if_ne (off := 15) (tgt := 1892) (x' := wr c) (by decide +kernel) (by decide) rfl (fun hc7 => ?_) (fun hc7 => ?_)
    · skip
      refine aw_goto (off := 647) (tgt := 2539) (by decide +kernel) (by decide) ?_
      exact AW.locals (next g3 _ (by omega) r3) drop7
    · have hcr : 0 ≤ c ∧ c ≤ 1 := ha.1
      have hc0 : c = 0 := by have := wr_id (x := c) (by omega) (by omega); omega
      refine aw_aload_n (k' := 3) (by decide +kernel) rfl ?_
      refine aw_iconst (n := 0) (by decide +kernel) ?_
      refine aw_lald (t := 190) (j := 0) (n := 1) (by decide +kernel) (isA_lit (show shp 190 = (3, 1) by decide +kernel) (by decide)) (by decide +kernel) (by decide +kernel) ?_
      rw [wr_0]
      refine aw_iload (i := 6) (by decide +kernel) rfl ?_
      refine aw_i2l (by decide +kernel) ?_
      refine aw_lcmp (by decide +kernel) ?_
      have e0 : lCmp (g3 190 0) (wr b9) = 0 := by rw [f3, h190 hc0, e3 hc0]; exact lCmp_self _
      rw [e0]
      refine ax_if_eq (off := 5) (tgt := 1892) (x' := 0) (by decide +kernel) (by decide) (by decide +kernel) (fun _ => ?_) (fun hc5 => absurd rfl hc5)
      refine aw_goto (off := 647) (tgt := 2539) (by decide +kernel) (by decide) ?_
      exact AW.locals (next g3 _ (by omega) r3) drop7
  refine aw_callSH (y := yL_pairs) (M2 := mL_pairs) (as := [vR 1, vI (SC Γ (i + 1)), vR 190]) (S := []) (idx := 233) (d2 := 0 + 11 + 1) (b2 := 1) (b3 := (b - 1)) cwL_pairs (tb_mem 1236 (by decide +kernel) (by decide +kernel)) stL_pairs (by decide +kernel) rfl (by decide) (by omega) rfl rfl (by simp [oneSlot]) (Nat.le_of_ble_eq_true rfl) (w_pairs (d2 := 0 + 11) (Nat.le_refl _) (fun c v g1 ha => ha.1) (p_pairs (Γ := Γ) (l := l) (d := 0) (p := SC Γ (i + 1)) h (wr_SC _)).pa (fun v g1 ha => T 0 v g1 _ ha lo9_out (fun _ => upd2_eq)) (fun c v g1 ha hc9 => T c v g1 g1 ha (fun _ _ _ => rfl) (fun z => absurd z (by omega))))
set_option maxHeartbeats 1000000 in
theorem lc_30 {Γ : Cfg} {l : Launch} {b : Nat} {i : Int} {g : GG} {K : Ou → HP → Prop} (hi : 0 ≤ i ∧ i + 6 ≤ (Γ.2.2.2.2.1 : Int)) (hN : Γ.2.2.2.2.1 ≤ 3072) (h : Rel9 g) (hb : 8 ≤ b) (next : ∀ (g' : GG) (b' : Nat), b - 4 ≤ b' → Rel9 g' → AW Γ l mL_law_ 60 b' 2539 [vR 4000, vR 1, vR 171, vR 190, vI i, vU, vU] [] (stt g') K) : AW Γ l mL_law_ 60 b 1895 [vR 4000, vR 1, vR 171, vR 190, vI i, vU, vU] [] (stt g) K := by
  refine aw_aload_n (k' := 1) (by decide +kernel) rfl ?_
  refine aw_aload_n (k' := 0) (by decide +kernel) rfl ?_
  refine aw_iload (i := 4) (by decide +kernel) rfl ?_
  refine aw_iconst (n := 1) (by decide +kernel) ?_
  refine aw_iadd (by decide +kernel) ?_
  refine aw_sld (x' := i + 1) (by decide +kernel) (wr_id (by omega) (by omega)) (by omega) ?_
  refine aw_aload_n (k' := 3) (by decide +kernel) rfl ?_
  have T : ∀ (c v : Int) (g1 g2 : GG), PA [eIO] (fun g2 K => Ct Γ l (0 + 11) 0 yX12_rests mX12_rests [vR 171, vI (SC Γ (i + 1))] (stt g2) K) c v g1 → lo9 g1 g2 → (c = 0 → g2 190 0 = wr v) → AW Γ l mL_law_ 60 (b - 2) 1906 [vR 4000, vR 1, vR 171, vR 190, vI i, vU, vU] [vI c] (stt g2) K := by
    intro c v g1 g2 ha hlo h190
    refine aw_istore (i := 5) (by decide +kernel) (by decide) ?_
    show AW Γ l mL_law_ 60 (b - 2) 1908 [vR 4000, vR 1, vR 171, vR 190, vI i, vI c, vU] [] (stt g2) K
    refine aw_aload_n (k' := 2) (by decide +kernel) rfl ?_
    refine aw_aload_n (k' := 0) (by decide +kernel) rfl ?_
    refine aw_iload (i := 4) (by decide +kernel) rfl ?_
    refine aw_iconst (n := 1) (by decide +kernel) ?_
    refine aw_iadd (by decide +kernel) ?_
    refine aw_sld (x' := i + 1) (by decide +kernel) (wr_id (by omega) (by omega)) (by omega) ?_
    refine aw_callV (y := yX12_rests) (M2 := mX12_rests) (as := [vI (SC Γ (i + 1))]) (S := []) (idx := 238) (t := 171) (d2 := 0 + 11) (b2 := 0) (b3 := (b - 2)) cwX12_rests (tb_mem 1955 (by decide +kernel) (by decide +kernel)) imX12_rests seX12_rests (by decide +kernel) rfl (ci := 10) rfl (OB.at (ci := 10) (show shp 171 = (20, 0) by decide +kernel) (by decide)) (by decide) (Nat.le_of_eq (Nat.zero_add _)) rfl rfl (by simp [oneSlot]) (Nat.le_of_ble_eq_true rfl) (Ct.mono (ha.2 g2 (fun b9 g3 => Rel9 g3 ∧ g3 171 0 = c ∧ (c = 0 → b9 = v) ∧ g3 190 0 = g2 190 0) hlo (fun b9 g3 r z e f => ⟨r, z, e, f 0⟩)) ?_)
    rintro o h' ⟨b9, g3, ⟨rfl, rfl⟩, r3, z3, e3, f3⟩
    show AW Γ l mL_law_ 60 (b - 2) 1918 [vR 4000, vR 1, vR 171, vR 190, vI i, vI c, vU] [vI b9] (stt g3) K
    refine aw_istore (i := 6) (by decide +kernel) (by decide) ?_
    show AW Γ l mL_law_ 60 (b - 2) 1920 [vR 4000, vR 1, vR 171, vR 190, vI i, vI c, vI b9] [] (stt g3) K
    refine aw_aload_n (k' := 2) (by decide +kernel) rfl ?_
    refine aw_callV (y := yX12_thrown) (M2 := mX12_thrown) (as := []) (S := []) (idx := 145) (t := 171) (d2 := 0) (b2 := 0) (b3 := (b - 2)) cwX12_thrown (tb_mem 1322 (by decide +kernel) (by decide +kernel)) imX12_thrown seX12_thrown (by decide +kernel) rfl (ci := 10) rfl (OB.at (ci := 10) (show shp 171 = (20, 0) by decide +kernel) (by decide)) (by decide) (Nat.le_of_eq (Nat.zero_add _)) rfl rfl (by simp [oneSlot]) (Nat.le_of_ble_eq_true rfl) (wpX12_thrown ?_)
    show AW Γ l mL_law_ 60 (b - 2) 1924 [vR 4000, vR 1, vR 171, vR 190, vI i, vI c, vI b9] [vI (g3 171 0)] (stt g3) K
    refine aw_iload (i := 5) (by decide +kernel) rfl ?_
    refine ax_icmp_eq (off := 5) (tgt := 1931) (x' := wr (g3 171 0)) (y' := wr c) (by decide +kernel) (by decide) rfl rfl (fun hc8 => ?_) (fun hc8 => absurd (by rw [z3]) hc8)
    refine aw_iload (i := 5) (by decide +kernel) rfl ?_
    refine ax_if_ne (off := 15) (tgt := 1948) (x' := wr c) (by decide +kernel) (by decide) rfl (fun hc7 => ?_) (fun hc7 => ?_)
    · skip
      refine aw_goto (off := 591) (tgt := 2539) (by decide +kernel) (by decide) ?_
      exact AW.locals (next g3 _ (by omega) r3) drop7
    · have hcr : 0 ≤ c ∧ c ≤ 1 := ha.1
      have hc0 : c = 0 := by have := wr_id (x := c) (by omega) (by omega); omega
      refine aw_aload_n (k' := 3) (by decide +kernel) rfl ?_
      refine aw_iconst (n := 0) (by decide +kernel) ?_
      refine aw_lald (t := 190) (j := 0) (n := 1) (by decide +kernel) (isA_lit (show shp 190 = (3, 1) by decide +kernel) (by decide)) (by decide +kernel) (by decide +kernel) ?_
      rw [wr_0]
      refine aw_iload (i := 6) (by decide +kernel) rfl ?_
      refine aw_i2l (by decide +kernel) ?_
      refine aw_lcmp (by decide +kernel) ?_
      have e0 : lCmp (g3 190 0) (wr b9) = 0 := by rw [f3, h190 hc0, e3 hc0]; exact lCmp_self _
      rw [e0]
      refine ax_if_eq (off := 5) (tgt := 1948) (x' := 0) (by decide +kernel) (by decide) (by decide +kernel) (fun _ => ?_) (fun hc5 => absurd rfl hc5)
      refine aw_goto (off := 591) (tgt := 2539) (by decide +kernel) (by decide) ?_
      exact AW.locals (next g3 _ (by omega) r3) drop7
  refine aw_callSH (y := yL_rests) (M2 := mL_rests) (as := [vR 1, vI (SC Γ (i + 1)), vR 190]) (S := []) (idx := 236) (d2 := 0 + 5 + 1) (b2 := 2) (b3 := (b - 2)) cwL_rests (tb_mem 1260 (by decide +kernel) (by decide +kernel)) stL_rests (by decide +kernel) rfl (by decide) (by omega) rfl rfl (by simp [oneSlot]) (Nat.le_of_ble_eq_true rfl) (w_rests (d2 := 0 + 5) (Nat.le_refl _) (fun c v g1 ha => ha.1) (p_rests (Γ := Γ) (l := l) (d := 0) (p := SC Γ (i + 1)) h (wr_SC _)).pa (fun v g1 ha => T 0 v g1 _ ha lo9_out (fun _ => upd2_eq)) (fun c v g1 ha hc9 => T c v g1 g1 ha (fun _ _ _ => rfl) (fun z => absurd z (by omega))))
set_option maxHeartbeats 1000000 in
theorem lc_31 {Γ : Cfg} {l : Launch} {b : Nat} {i : Int} {g : GG} {K : Ou → HP → Prop} (hi : 0 ≤ i ∧ i + 6 ≤ (Γ.2.2.2.2.1 : Int)) (hN : Γ.2.2.2.2.1 ≤ 3072) (h : Rel9 g) (hb : 8 ≤ b) (next : ∀ (g' : GG) (b' : Nat), b - 4 ≤ b' → Rel9 g' → AW Γ l mL_law_ 60 b' 2539 [vR 4000, vR 1, vR 171, vR 190, vI i, vU, vU] [] (stt g') K) : AW Γ l mL_law_ 60 b 1951 [vR 4000, vR 1, vR 171, vR 190, vI i, vU, vU] [] (stt g) K := by
  refine aw_aload_n (k' := 1) (by decide +kernel) rfl ?_
  refine aw_aload_n (k' := 0) (by decide +kernel) rfl ?_
  refine aw_iload (i := 4) (by decide +kernel) rfl ?_
  refine aw_iconst (n := 1) (by decide +kernel) ?_
  refine aw_iadd (by decide +kernel) ?_
  refine aw_sld (x' := i + 1) (by decide +kernel) (wr_id (by omega) (by omega)) (by omega) ?_
  refine aw_aload_n (k' := 3) (by decide +kernel) rfl ?_
  have T : ∀ (c v : Int) (g1 g2 : GG), PA [eIA] (fun g2 K => Ct Γ l (0 + 2) 0 yX12_odds mX12_odds [vR 171, vI (SC Γ (i + 1))] (stt g2) K) c v g1 → lo9 g1 g2 → (c = 0 → g2 190 0 = wr v) → AW Γ l mL_law_ 60 (b - 2) 1962 [vR 4000, vR 1, vR 171, vR 190, vI i, vU, vU] [vI c] (stt g2) K := by
    intro c v g1 g2 ha hlo h190
    refine aw_istore (i := 5) (by decide +kernel) (by decide) ?_
    show AW Γ l mL_law_ 60 (b - 2) 1964 [vR 4000, vR 1, vR 171, vR 190, vI i, vI c, vU] [] (stt g2) K
    refine aw_aload_n (k' := 2) (by decide +kernel) rfl ?_
    refine aw_aload_n (k' := 0) (by decide +kernel) rfl ?_
    refine aw_iload (i := 4) (by decide +kernel) rfl ?_
    refine aw_iconst (n := 1) (by decide +kernel) ?_
    refine aw_iadd (by decide +kernel) ?_
    refine aw_sld (x' := i + 1) (by decide +kernel) (wr_id (by omega) (by omega)) (by omega) ?_
    refine aw_callV (y := yX12_odds) (M2 := mX12_odds) (as := [vI (SC Γ (i + 1))]) (S := []) (idx := 241) (t := 171) (d2 := 0 + 2) (b2 := 0) (b3 := (b - 2)) cwX12_odds (tb_mem 1967 (by decide +kernel) (by decide +kernel)) imX12_odds seX12_odds (by decide +kernel) rfl (ci := 10) rfl (OB.at (ci := 10) (show shp 171 = (20, 0) by decide +kernel) (by decide)) (by decide) (Nat.le_of_eq (Nat.zero_add _)) rfl rfl (by simp [oneSlot]) (Nat.le_of_ble_eq_true rfl) (Ct.mono (ha.2 g2 (fun b9 g3 => Rel9 g3 ∧ g3 171 0 = c ∧ (c = 0 → b9 = v) ∧ g3 190 0 = g2 190 0) hlo (fun b9 g3 r z e f => ⟨r, z, e, f 0⟩)) ?_)
    rintro o h' ⟨b9, g3, ⟨rfl, rfl⟩, r3, z3, e3, f3⟩
    show AW Γ l mL_law_ 60 (b - 2) 1974 [vR 4000, vR 1, vR 171, vR 190, vI i, vI c, vU] [vI b9] (stt g3) K
    refine aw_istore (i := 6) (by decide +kernel) (by decide) ?_
    show AW Γ l mL_law_ 60 (b - 2) 1976 [vR 4000, vR 1, vR 171, vR 190, vI i, vI c, vI b9] [] (stt g3) K
    refine aw_aload_n (k' := 2) (by decide +kernel) rfl ?_
    refine aw_callV (y := yX12_thrown) (M2 := mX12_thrown) (as := []) (S := []) (idx := 145) (t := 171) (d2 := 0) (b2 := 0) (b3 := (b - 2)) cwX12_thrown (tb_mem 1322 (by decide +kernel) (by decide +kernel)) imX12_thrown seX12_thrown (by decide +kernel) rfl (ci := 10) rfl (OB.at (ci := 10) (show shp 171 = (20, 0) by decide +kernel) (by decide)) (by decide) (Nat.le_of_eq (Nat.zero_add _)) rfl rfl (by simp [oneSlot]) (Nat.le_of_ble_eq_true rfl) (wpX12_thrown ?_)
    show AW Γ l mL_law_ 60 (b - 2) 1980 [vR 4000, vR 1, vR 171, vR 190, vI i, vI c, vI b9] [vI (g3 171 0)] (stt g3) K
    refine aw_iload (i := 5) (by decide +kernel) rfl ?_
    refine ax_icmp_eq (off := 5) (tgt := 1987) (x' := wr (g3 171 0)) (y' := wr c) (by decide +kernel) (by decide) rfl rfl (fun hc8 => ?_) (fun hc8 => absurd (by rw [z3]) hc8)
    refine aw_iload (i := 5) (by decide +kernel) rfl ?_
    refine ax_if_ne (off := 15) (tgt := 2004) (x' := wr c) (by decide +kernel) (by decide) rfl (fun hc7 => ?_) (fun hc7 => ?_)
    · skip
      refine aw_goto (off := 535) (tgt := 2539) (by decide +kernel) (by decide) ?_
      exact AW.locals (next g3 _ (by omega) r3) drop7
    · have hcr : 0 ≤ c ∧ c ≤ 1 := ha.1
      have hc0 : c = 0 := by have := wr_id (x := c) (by omega) (by omega); omega
      refine aw_aload_n (k' := 3) (by decide +kernel) rfl ?_
      refine aw_iconst (n := 0) (by decide +kernel) ?_
      refine aw_lald (t := 190) (j := 0) (n := 1) (by decide +kernel) (isA_lit (show shp 190 = (3, 1) by decide +kernel) (by decide)) (by decide +kernel) (by decide +kernel) ?_
      rw [wr_0]
      refine aw_iload (i := 6) (by decide +kernel) rfl ?_
      refine aw_i2l (by decide +kernel) ?_
      refine aw_lcmp (by decide +kernel) ?_
      have e0 : lCmp (g3 190 0) (wr b9) = 0 := by rw [f3, h190 hc0, e3 hc0]; exact lCmp_self _
      rw [e0]
      refine ax_if_eq (off := 5) (tgt := 2004) (x' := 0) (by decide +kernel) (by decide) (by decide +kernel) (fun _ => ?_) (fun hc5 => absurd rfl hc5)
      refine aw_goto (off := 535) (tgt := 2539) (by decide +kernel) (by decide) ?_
      exact AW.locals (next g3 _ (by omega) r3) drop7
  refine aw_callSH (y := yL_odds) (M2 := mL_odds) (as := [vR 1, vI (SC Γ (i + 1)), vR 190]) (S := []) (idx := 239) (d2 := 0 + 1 + 1) (b2 := 2) (b3 := (b - 2)) cwL_odds (tb_mem 1270 (by decide +kernel) (by decide +kernel)) stL_odds (by decide +kernel) rfl (by decide) (by omega) rfl rfl (by simp [oneSlot]) (Nat.le_of_ble_eq_true rfl) (w_odds (d2 := 0 + 1) (Nat.le_refl _) (fun c v g1 ha => ha.1) (p_odds (Γ := Γ) (l := l) (d := 0) (n := SC Γ (i + 1)) h (wr_SC _)).pa (fun v g1 ha => T 0 v g1 _ ha lo9_out (fun _ => upd2_eq)) (fun c v g1 ha hc9 => T c v g1 g1 ha (fun _ _ _ => rfl) (fun z => absurd z (by omega))))
set_option maxHeartbeats 1000000 in
theorem lc_32 {Γ : Cfg} {l : Launch} {b : Nat} {i : Int} {g : GG} {K : Ou → HP → Prop} (hi : 0 ≤ i ∧ i + 6 ≤ (Γ.2.2.2.2.1 : Int)) (hN : Γ.2.2.2.2.1 ≤ 3072) (h : Rel9 g) (hb : 8 ≤ b) (next : ∀ (g' : GG) (b' : Nat), b - 4 ≤ b' → Rel9 g' → AW Γ l mL_law_ 60 b' 2539 [vR 4000, vR 1, vR 171, vR 190, vI i, vU, vU] [] (stt g') K) : AW Γ l mL_law_ 60 b 2007 [vR 4000, vR 1, vR 171, vR 190, vI i, vU, vU] [] (stt g) K := by
  refine aw_aload_n (k' := 1) (by decide +kernel) rfl ?_
  refine aw_aload_n (k' := 0) (by decide +kernel) rfl ?_
  refine aw_iload (i := 4) (by decide +kernel) rfl ?_
  refine aw_iconst (n := 1) (by decide +kernel) ?_
  refine aw_iadd (by decide +kernel) ?_
  refine aw_sld (x' := i + 1) (by decide +kernel) (wr_id (by omega) (by omega)) (by omega) ?_
  refine aw_aload_n (k' := 3) (by decide +kernel) rfl ?_
  have T : ∀ (c v : Int) (g1 g2 : GG), PA [eNS] (fun g2 K => Ct Γ l (0 + 9) 0 yX12_most mX12_most [vR 171, vI (SC Γ (i + 1))] (stt g2) K) c v g1 → lo9 g1 g2 → (c = 0 → g2 190 0 = wr v) → AW Γ l mL_law_ 60 (b - 1) 2018 [vR 4000, vR 1, vR 171, vR 190, vI i, vU, vU] [vI c] (stt g2) K := by
    intro c v g1 g2 ha hlo h190
    refine aw_istore (i := 5) (by decide +kernel) (by decide) ?_
    show AW Γ l mL_law_ 60 (b - 1) 2020 [vR 4000, vR 1, vR 171, vR 190, vI i, vI c, vU] [] (stt g2) K
    refine aw_aload_n (k' := 2) (by decide +kernel) rfl ?_
    refine aw_aload_n (k' := 0) (by decide +kernel) rfl ?_
    refine aw_iload (i := 4) (by decide +kernel) rfl ?_
    refine aw_iconst (n := 1) (by decide +kernel) ?_
    refine aw_iadd (by decide +kernel) ?_
    refine aw_sld (x' := i + 1) (by decide +kernel) (wr_id (by omega) (by omega)) (by omega) ?_
    refine aw_callV (y := yX12_most) (M2 := mX12_most) (as := [vI (SC Γ (i + 1))]) (S := []) (idx := 244) (t := 171) (d2 := 0 + 9) (b2 := 0) (b3 := (b - 1)) cwX12_most (tb_mem 1971 (by decide +kernel) (by decide +kernel)) imX12_most seX12_most (by decide +kernel) rfl (ci := 10) rfl (OB.at (ci := 10) (show shp 171 = (20, 0) by decide +kernel) (by decide)) (by decide) (Nat.le_of_eq (Nat.zero_add _)) rfl rfl (by simp [oneSlot]) (Nat.le_of_ble_eq_true rfl) (Ct.mono (ha.2 g2 (fun b9 g3 => Rel9 g3 ∧ g3 171 0 = c ∧ (c = 0 → b9 = v) ∧ g3 190 0 = g2 190 0) hlo (fun b9 g3 r z e f => ⟨r, z, e, f 0⟩)) ?_)
    rintro o h' ⟨b9, g3, ⟨rfl, rfl⟩, r3, z3, e3, f3⟩
    show AW Γ l mL_law_ 60 (b - 1) 2030 [vR 4000, vR 1, vR 171, vR 190, vI i, vI c, vU] [vI b9] (stt g3) K
    refine aw_istore (i := 6) (by decide +kernel) (by decide) ?_
    show AW Γ l mL_law_ 60 (b - 1) 2032 [vR 4000, vR 1, vR 171, vR 190, vI i, vI c, vI b9] [] (stt g3) K
    refine aw_aload_n (k' := 2) (by decide +kernel) rfl ?_
    refine aw_callV (y := yX12_thrown) (M2 := mX12_thrown) (as := []) (S := []) (idx := 145) (t := 171) (d2 := 0) (b2 := 0) (b3 := (b - 1)) cwX12_thrown (tb_mem 1322 (by decide +kernel) (by decide +kernel)) imX12_thrown seX12_thrown (by decide +kernel) rfl (ci := 10) rfl (OB.at (ci := 10) (show shp 171 = (20, 0) by decide +kernel) (by decide)) (by decide) (Nat.le_of_eq (Nat.zero_add _)) rfl rfl (by simp [oneSlot]) (Nat.le_of_ble_eq_true rfl) (wpX12_thrown ?_)
    show AW Γ l mL_law_ 60 (b - 1) 2036 [vR 4000, vR 1, vR 171, vR 190, vI i, vI c, vI b9] [vI (g3 171 0)] (stt g3) K
    refine aw_iload (i := 5) (by decide +kernel) rfl ?_
    refine ax_icmp_eq (off := 5) (tgt := 2043) (x' := wr (g3 171 0)) (y' := wr c) (by decide +kernel) (by decide) rfl rfl (fun hc8 => ?_) (fun hc8 => absurd (by rw [z3]) hc8)
    refine aw_iload (i := 5) (by decide +kernel) rfl ?_
    refine ax_if_ne (off := 15) (tgt := 2060) (x' := wr c) (by decide +kernel) (by decide) rfl (fun hc7 => ?_) (fun hc7 => ?_)
    · skip
      refine aw_goto (off := 479) (tgt := 2539) (by decide +kernel) (by decide) ?_
      exact AW.locals (next g3 _ (by omega) r3) drop7
    · have hcr : 0 ≤ c ∧ c ≤ 1 := ha.1
      have hc0 : c = 0 := by have := wr_id (x := c) (by omega) (by omega); omega
      refine aw_aload_n (k' := 3) (by decide +kernel) rfl ?_
      refine aw_iconst (n := 0) (by decide +kernel) ?_
      refine aw_lald (t := 190) (j := 0) (n := 1) (by decide +kernel) (isA_lit (show shp 190 = (3, 1) by decide +kernel) (by decide)) (by decide +kernel) (by decide +kernel) ?_
      rw [wr_0]
      refine aw_iload (i := 6) (by decide +kernel) rfl ?_
      refine aw_i2l (by decide +kernel) ?_
      refine aw_lcmp (by decide +kernel) ?_
      have e0 : lCmp (g3 190 0) (wr b9) = 0 := by rw [f3, h190 hc0, e3 hc0]; exact lCmp_self _
      rw [e0]
      refine ax_if_eq (off := 5) (tgt := 2060) (x' := 0) (by decide +kernel) (by decide) (by decide +kernel) (fun _ => ?_) (fun hc5 => absurd rfl hc5)
      refine aw_goto (off := 479) (tgt := 2539) (by decide +kernel) (by decide) ?_
      exact AW.locals (next g3 _ (by omega) r3) drop7
  refine aw_callSH (y := yL_most) (M2 := mL_most) (as := [vR 1, vI (SC Γ (i + 1)), vR 190]) (S := []) (idx := 242) (d2 := 0 + 5 + 1) (b2 := 1) (b3 := (b - 1)) cwL_most (tb_mem 1277 (by decide +kernel) (by decide +kernel)) stL_most (by decide +kernel) rfl (by decide) (by omega) rfl rfl (by simp [oneSlot]) (Nat.le_of_ble_eq_true rfl) (w_most (d2 := 0 + 5) (Nat.le_refl _) (fun c v g1 ha => ha.1) (p_most (Γ := Γ) (l := l) (d := 0) (w := SC Γ (i + 1)) h (wr_SC _)).pa (fun v g1 ha => T 0 v g1 _ ha lo9_out (fun _ => upd2_eq)) (fun c v g1 ha hc9 => T c v g1 g1 ha (fun _ _ _ => rfl) (fun z => absurd z (by omega))))
