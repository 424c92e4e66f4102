/-! THE LAW'S CASES, walked (genL.py), part 2 -/
set_option maxHeartbeats 1000000 in
theorem lc_11 {Γ : Cfg} {l : Launch} {b : Nat} {i : Int} {g : GG} {K : Ou → HP → Prop} (hi : 0 ≤ i ∧ i + 6 ≤ (Γ.2.2.2.2.1 : Int)) (hN : Γ.2.2.2.2.1 ≤ 3072) (h : Rel9 g) (hb : 8 ≤ b) (next : ∀ (g' : GG) (b' : Nat), b - 4 ≤ b' → Rel9 g' → AW Γ l mL_law_ 60 b' 2539 [vR 4000, vR 1, vR 171, vR 190, vI i, vU, vU] [] (stt g') K) : AW Γ l mL_law_ 60 b 855 [vR 4000, vR 1, vR 171, vR 190, vI i, vU, vU] [] (stt g) K := by
  refine aw_aload_n (k' := 1) (by decide +kernel) rfl ?_
  refine aw_aload_n (k' := 0) (by decide +kernel) rfl ?_
  refine aw_iload (i := 4) (by decide +kernel) rfl ?_
  refine aw_iconst (n := 1) (by decide +kernel) ?_
  refine aw_iadd (by decide +kernel) ?_
  refine aw_sld (x' := i + 1) (by decide +kernel) (wr_id (by omega) (by omega)) (by omega) ?_
  refine aw_aload_n (k' := 3) (by decide +kernel) rfl ?_
  have T : ∀ (c v : Int) (g1 g2 : GG), PA [eIO, eIS] (fun g2 K => Ct Γ l (0 + 3) 0 yX12_begin mX12_begin [vR 171, vI (SC Γ (i + 1))] (stt g2) K) c v g1 → lo9 g1 g2 → (c = 0 → g2 190 0 = wr v) → AW Γ l mL_law_ 60 (b - 2) 866 [vR 4000, vR 1, vR 171, vR 190, vI i, vU, vU] [vI c] (stt g2) K := by
    intro c v g1 g2 ha hlo h190
    refine aw_istore (i := 5) (by decide +kernel) (by decide) ?_
    show AW Γ l mL_law_ 60 (b - 2) 868 [vR 4000, vR 1, vR 171, vR 190, vI i, vI c, vU] [] (stt g2) K
    refine aw_aload_n (k' := 2) (by decide +kernel) rfl ?_
    refine aw_aload_n (k' := 0) (by decide +kernel) rfl ?_
    refine aw_iload (i := 4) (by decide +kernel) rfl ?_
    refine aw_iconst (n := 1) (by decide +kernel) ?_
    refine aw_iadd (by decide +kernel) ?_
    refine aw_sld (x' := i + 1) (by decide +kernel) (wr_id (by omega) (by omega)) (by omega) ?_
    refine aw_callV (y := yX12_begin) (M2 := mX12_begin) (as := [vI (SC Γ (i + 1))]) (S := []) (idx := 179) (t := 171) (d2 := 0 + 3) (b2 := 0) (b3 := (b - 2)) cwX12_begin (tb_mem 1793 (by decide +kernel) (by decide +kernel)) imX12_begin seX12_begin (by decide +kernel) rfl (ci := 10) rfl (OB.at (ci := 10) (show shp 171 = (20, 0) by decide +kernel) (by decide)) (by decide) (Nat.le_of_eq (Nat.zero_add _)) rfl rfl (by simp [oneSlot]) (Nat.le_of_ble_eq_true rfl) (Ct.mono (ha.2 g2 (fun b9 g3 => Rel9 g3 ∧ g3 171 0 = c ∧ (c = 0 → b9 = v) ∧ g3 190 0 = g2 190 0) hlo (fun b9 g3 r z e f => ⟨r, z, e, f 0⟩)) ?_)
    rintro o h' ⟨b9, g3, ⟨rfl, rfl⟩, r3, z3, e3, f3⟩
    show AW Γ l mL_law_ 60 (b - 2) 878 [vR 4000, vR 1, vR 171, vR 190, vI i, vI c, vU] [vI b9] (stt g3) K
    refine aw_istore (i := 6) (by decide +kernel) (by decide) ?_
    show AW Γ l mL_law_ 60 (b - 2) 880 [vR 4000, vR 1, vR 171, vR 190, vI i, vI c, vI b9] [] (stt g3) K
    refine aw_aload_n (k' := 2) (by decide +kernel) rfl ?_
    refine aw_callV (y := yX12_thrown) (M2 := mX12_thrown) (as := []) (S := []) (idx := 145) (t := 171) (d2 := 0) (b2 := 0) (b3 := (b - 2)) cwX12_thrown (tb_mem 1322 (by decide +kernel) (by decide +kernel)) imX12_thrown seX12_thrown (by decide +kernel) rfl (ci := 10) rfl (OB.at (ci := 10) (show shp 171 = (20, 0) by decide +kernel) (by decide)) (by decide) (Nat.le_of_eq (Nat.zero_add _)) rfl rfl (by simp [oneSlot]) (Nat.le_of_ble_eq_true rfl) (wpX12_thrown ?_)
    show AW Γ l mL_law_ 60 (b - 2) 884 [vR 4000, vR 1, vR 171, vR 190, vI i, vI c, vI b9] [vI (g3 171 0)] (stt g3) K
    refine aw_iload (i := 5) (by decide +kernel) rfl ?_
    refine ax_icmp_eq (off := 5) (tgt := 891) (x' := wr (g3 171 0)) (y' := wr c) (by decide +kernel) (by decide) rfl rfl (fun hc8 => ?_) (fun hc8 => absurd (by rw [z3]) hc8)
    refine aw_iload (i := 5) (by decide +kernel) rfl ?_
    refine ax_if_ne (off := 15) (tgt := 908) (x' := wr c) (by decide +kernel) (by decide) rfl (fun hc7 => ?_) (fun hc7 => ?_)
    · skip
      refine aw_goto (off := 1631) (tgt := 2539) (by decide +kernel) (by decide) ?_
      exact AW.locals (next g3 _ (by omega) r3) drop7
    · have hcr : 0 ≤ c ∧ c ≤ 2 := ha.1
      have hc0 : c = 0 := by have := wr_id (x := c) (by omega) (by omega); omega
      refine aw_aload_n (k' := 3) (by decide +kernel) rfl ?_
      refine aw_iconst (n := 0) (by decide +kernel) ?_
      refine aw_lald (t := 190) (j := 0) (n := 1) (by decide +kernel) (isA_lit (show shp 190 = (3, 1) by decide +kernel) (by decide)) (by decide +kernel) (by decide +kernel) ?_
      rw [wr_0]
      refine aw_iload (i := 6) (by decide +kernel) rfl ?_
      refine aw_i2l (by decide +kernel) ?_
      refine aw_lcmp (by decide +kernel) ?_
      have e0 : lCmp (g3 190 0) (wr b9) = 0 := by rw [f3, h190 hc0, e3 hc0]; exact lCmp_self _
      rw [e0]
      refine ax_if_eq (off := 5) (tgt := 908) (x' := 0) (by decide +kernel) (by decide) (by decide +kernel) (fun _ => ?_) (fun hc5 => absurd rfl hc5)
      refine aw_goto (off := 1631) (tgt := 2539) (by decide +kernel) (by decide) ?_
      exact AW.locals (next g3 _ (by omega) r3) drop7
  refine aw_callSH (y := yL_begin) (M2 := mL_begin) (as := [vR 1, vI (SC Γ (i + 1)), vR 190]) (S := []) (idx := 177) (d2 := 0 + 3 + 1) (b2 := 2) (b3 := (b - 2)) cwL_begin (tb_mem 1031 (by decide +kernel) (by decide +kernel)) stL_begin (by decide +kernel) rfl (by decide) (by omega) rfl rfl (by simp [oneSlot]) (Nat.le_of_ble_eq_true rfl) (w_begin (d2 := 0 + 3) (Nat.le_refl _) (fun c v g1 ha => ha.1) (p_begin (Γ := Γ) (l := l) (d := 0) (p := SC Γ (i + 1)) h (wr_SC _)).pa (fun v g1 ha => T 0 v g1 _ ha lo9_out (fun _ => upd2_eq)) (fun c v g1 ha hc9 => T c v g1 g1 ha (fun _ _ _ => rfl) (fun z => absurd z (by omega))))
set_option maxHeartbeats 1000000 in
theorem lc_12 {Γ : Cfg} {l : Launch} {b : Nat} {i : Int} {g : GG} {K : Ou → HP → Prop} (hi : 0 ≤ i ∧ i + 6 ≤ (Γ.2.2.2.2.1 : Int)) (hN : Γ.2.2.2.2.1 ≤ 3072) (h : Rel9 g) (hb : 8 ≤ b) (next : ∀ (g' : GG) (b' : Nat), b - 4 ≤ b' → Rel9 g' → AW Γ l mL_law_ 60 b' 2539 [vR 4000, vR 1, vR 171, vR 190, vI i, vU, vU] [] (stt g') K) : AW Γ l mL_law_ 60 b 911 [vR 4000, vR 1, vR 171, vR 190, vI i, vU, vU] [] (stt g) K := by
  refine aw_aload_n (k' := 1) (by decide +kernel) rfl ?_
  refine aw_aload_n (k' := 0) (by decide +kernel) rfl ?_
  refine aw_iload (i := 4) (by decide +kernel) rfl ?_
  refine aw_iconst (n := 1) (by decide +kernel) ?_
  refine aw_iadd (by decide +kernel) ?_
  refine aw_sld (x' := i + 1) (by decide +kernel) (wr_id (by omega) (by omega)) (by omega) ?_
  refine aw_aload_n (k' := 0) (by decide +kernel) rfl ?_
  refine aw_iload (i := 4) (by decide +kernel) rfl ?_
  refine aw_iconst (n := 2) (by decide +kernel) ?_
  refine aw_iadd (by decide +kernel) ?_
  refine aw_sld (x' := i + 2) (by decide +kernel) (wr_id (by omega) (by omega)) (by omega) ?_
  refine aw_aload_n (k' := 3) (by decide +kernel) rfl ?_
  have T : ∀ (c v : Int) (g1 g2 : GG), PA [eIO, eIA, eIS] (fun g2 K => Ct Γ l (0 + 10) 0 yX12_stop mX12_stop [vR 171, vI (SC Γ (i + 1)), vI (SC Γ (i + 2))] (stt g2) K) c v g1 → lo9 g1 g2 → (c = 0 → g2 190 0 = wr v) → AW Γ l mL_law_ 60 (b - 3) 928 [vR 4000, vR 1, vR 171, vR 190, vI i, vU, vU] [vI c] (stt g2) K := by
    intro c v g1 g2 ha hlo h190
    refine aw_istore (i := 5) (by decide +kernel) (by decide) ?_
    show AW Γ l mL_law_ 60 (b - 3) 930 [vR 4000, vR 1, vR 171, vR 190, vI i, vI c, vU] [] (stt g2) K
    refine aw_aload_n (k' := 2) (by decide +kernel) rfl ?_
    refine aw_aload_n (k' := 0) (by decide +kernel) rfl ?_
    refine aw_iload (i := 4) (by decide +kernel) rfl ?_
    refine aw_iconst (n := 1) (by decide +kernel) ?_
    refine aw_iadd (by decide +kernel) ?_
    refine aw_sld (x' := i + 1) (by decide +kernel) (wr_id (by omega) (by omega)) (by omega) ?_
    refine aw_aload_n (k' := 0) (by decide +kernel) rfl ?_
    refine aw_iload (i := 4) (by decide +kernel) rfl ?_
    refine aw_iconst (n := 2) (by decide +kernel) ?_
    refine aw_iadd (by decide +kernel) ?_
    refine aw_sld (x' := i + 2) (by decide +kernel) (wr_id (by omega) (by omega)) (by omega) ?_
    refine aw_callV (y := yX12_stop) (M2 := mX12_stop) (as := [vI (SC Γ (i + 1)), vI (SC Γ (i + 2))]) (S := []) (idx := 182) (t := 171) (d2 := 0 + 10) (b2 := 0) (b3 := (b - 3)) cwX12_stop (tb_mem 1801 (by decide +kernel) (by decide +kernel)) imX12_stop seX12_stop (by decide +kernel) rfl (ci := 10) rfl (OB.at (ci := 10) (show shp 171 = (20, 0) by decide +kernel) (by decide)) (by decide) (Nat.le_of_eq (Nat.zero_add _)) rfl rfl (by simp [oneSlot]) (Nat.le_of_ble_eq_true rfl) (Ct.mono (ha.2 g2 (fun b9 g3 => Rel9 g3 ∧ g3 171 0 = c ∧ (c = 0 → b9 = v) ∧ g3 190 0 = g2 190 0) hlo (fun b9 g3 r z e f => ⟨r, z, e, f 0⟩)) ?_)
    rintro o h' ⟨b9, g3, ⟨rfl, rfl⟩, r3, z3, e3, f3⟩
    show AW Γ l mL_law_ 60 (b - 3) 946 [vR 4000, vR 1, vR 171, vR 190, vI i, vI c, vU] [vI b9] (stt g3) K
    refine aw_istore (i := 6) (by decide +kernel) (by decide) ?_
    show AW Γ l mL_law_ 60 (b - 3) 948 [vR 4000, vR 1, vR 171, vR 190, vI i, vI c, vI b9] [] (stt g3) K
    refine aw_aload_n (k' := 2) (by decide +kernel) rfl ?_
    refine aw_callV (y := yX12_thrown) (M2 := mX12_thrown) (as := []) (S := []) (idx := 145) (t := 171) (d2 := 0) (b2 := 0) (b3 := (b - 3)) cwX12_thrown (tb_mem 1322 (by decide +kernel) (by decide +kernel)) imX12_thrown seX12_thrown (by decide +kernel) rfl (ci := 10) rfl (OB.at (ci := 10) (show shp 171 = (20, 0) by decide +kernel) (by decide)) (by decide) (Nat.le_of_eq (Nat.zero_add _)) rfl rfl (by simp [oneSlot]) (Nat.le_of_ble_eq_true rfl) (wpX12_thrown ?_)
    show AW Γ l mL_law_ 60 (b - 3) 952 [vR 4000, vR 1, vR 171, vR 190, vI i, vI c, vI b9] [vI (g3 171 0)] (stt g3) K
    refine aw_iload (i := 5) (by decide +kernel) rfl ?_
    refine ax_icmp_eq (off := 5) (tgt := 959) (x' := wr (g3 171 0)) (y' := wr c) (by decide +kernel) (by decide) rfl rfl (fun hc8 => ?_) (fun hc8 => absurd (by rw [z3]) hc8)
    refine aw_iload (i := 5) (by decide +kernel) rfl ?_
    refine ax_if_ne (off := 15) (tgt := 976) (x' := wr c) (by decide +kernel) (by decide) rfl (fun hc7 => ?_) (fun hc7 => ?_)
    · skip
      refine aw_goto (off := 1563) (tgt := 2539) (by decide +kernel) (by decide) ?_
      exact AW.locals (next g3 _ (by omega) r3) drop7
    · have hcr : 0 ≤ c ∧ c ≤ 3 := ha.1
      have hc0 : c = 0 := by have := wr_id (x := c) (by omega) (by omega); omega
      refine aw_aload_n (k' := 3) (by decide +kernel) rfl ?_
      refine aw_iconst (n := 0) (by decide +kernel) ?_
      refine aw_lald (t := 190) (j := 0) (n := 1) (by decide +kernel) (isA_lit (show shp 190 = (3, 1) by decide +kernel) (by decide)) (by decide +kernel) (by decide +kernel) ?_
      rw [wr_0]
      refine aw_iload (i := 6) (by decide +kernel) rfl ?_
      refine aw_i2l (by decide +kernel) ?_
      refine aw_lcmp (by decide +kernel) ?_
      have e0 : lCmp (g3 190 0) (wr b9) = 0 := by rw [f3, h190 hc0, e3 hc0]; exact lCmp_self _
      rw [e0]
      refine ax_if_eq (off := 5) (tgt := 976) (x' := 0) (by decide +kernel) (by decide) (by decide +kernel) (fun _ => ?_) (fun hc5 => absurd rfl hc5)
      refine aw_goto (off := 1563) (tgt := 2539) (by decide +kernel) (by decide) ?_
      exact AW.locals (next g3 _ (by omega) r3) drop7
  refine aw_callSH (y := yL_stop) (M2 := mL_stop) (as := [vR 1, vI (SC Γ (i + 1)), vI (SC Γ (i + 2)), vR 190]) (S := []) (idx := 180) (d2 := 0 + 5 + 1) (b2 := 3) (b3 := (b - 3)) cwL_stop (tb_mem 1060 (by decide +kernel) (by decide +kernel)) stL_stop (by decide +kernel) rfl (by decide) (by omega) rfl rfl (by simp [oneSlot]) (Nat.le_of_ble_eq_true rfl) (w_stop (d2 := 0 + 5) (Nat.le_refl _) (fun c v g1 ha => ha.1) (p_stop (Γ := Γ) (l := l) (d := 0) (p := SC Γ (i + 1)) (k := SC Γ (i + 2)) h (wr_SC _) (wr_SC _)).pa (fun v g1 ha => T 0 v g1 _ ha lo9_out (fun _ => upd2_eq)) (fun c v g1 ha hc9 => T c v g1 g1 ha (fun _ _ _ => rfl) (fun z => absurd z (by omega))))
set_option maxHeartbeats 1000000 in
theorem lc_13 {Γ : Cfg} {l : Launch} {b : Nat} {i : Int} {g : GG} {K : Ou → HP → Prop} (hi : 0 ≤ i ∧ i + 6 ≤ (Γ.2.2.2.2.1 : Int)) (hN : Γ.2.2.2.2.1 ≤ 3072) (h : Rel9 g) (hb : 8 ≤ b) (next : ∀ (g' : GG) (b' : Nat), b - 4 ≤ b' → Rel9 g' → AW Γ l mL_law_ 60 b' 2539 [vR 4000, vR 1, vR 171, vR 190, vI i, vU, vU] [] (stt g') K) : AW Γ l mL_law_ 60 b 979 [vR 4000, vR 1, vR 171, vR 190, vI i, vU, vU] [] (stt g) K := by
  refine aw_aload_n (k' := 1) (by decide +kernel) rfl ?_
  refine aw_aload_n (k' := 0) (by decide +kernel) rfl ?_
  refine aw_iload (i := 4) (by decide +kernel) rfl ?_
  refine aw_iconst (n := 1) (by decide +kernel) ?_
  refine aw_iadd (by decide +kernel) ?_
  refine aw_sld (x' := i + 1) (by decide +kernel) (wr_id (by omega) (by omega)) (by omega) ?_
  refine aw_aload_n (k' := 3) (by decide +kernel) rfl ?_
  have T : ∀ (c v : Int) (g1 g2 : GG), PA [eIO, eIS] (fun g2 K => Ct Γ l (0 + 8) 0 yX12_finish mX12_finish [vR 171, vI (SC Γ (i + 1))] (stt g2) K) c v g1 → lo9 g1 g2 → (c = 0 → g2 190 0 = wr v) → AW Γ l mL_law_ 60 (b - 2) 990 [vR 4000, vR 1, vR 171, vR 190, vI i, vU, vU] [vI c] (stt g2) K := by
    intro c v g1 g2 ha hlo h190
    refine aw_istore (i := 5) (by decide +kernel) (by decide) ?_
    show AW Γ l mL_law_ 60 (b - 2) 992 [vR 4000, vR 1, vR 171, vR 190, vI i, vI c, vU] [] (stt g2) K
    refine aw_aload_n (k' := 2) (by decide +kernel) rfl ?_
    refine aw_aload_n (k' := 0) (by decide +kernel) rfl ?_
    refine aw_iload (i := 4) (by decide +kernel) rfl ?_
    refine aw_iconst (n := 1) (by decide +kernel) ?_
    refine aw_iadd (by decide +kernel) ?_
    refine aw_sld (x' := i + 1) (by decide +kernel) (wr_id (by omega) (by omega)) (by omega) ?_
    refine aw_callV (y := yX12_finish) (M2 := mX12_finish) (as := [vI (SC Γ (i + 1))]) (S := []) (idx := 185) (t := 171) (d2 := 0 + 8) (b2 := 0) (b3 := (b - 2)) cwX12_finish (tb_mem 1805 (by decide +kernel) (by decide +kernel)) imX12_finish seX12_finish (by decide +kernel) rfl (ci := 10) rfl (OB.at (ci := 10) (show shp 171 = (20, 0) by decide +kernel) (by decide)) (by decide) (Nat.le_of_eq (Nat.zero_add _)) rfl rfl (by simp [oneSlot]) (Nat.le_of_ble_eq_true rfl) (Ct.mono (ha.2 g2 (fun b9 g3 => Rel9 g3 ∧ g3 171 0 = c ∧ (c = 0 → b9 = v) ∧ g3 190 0 = g2 190 0) hlo (fun b9 g3 r z e f => ⟨r, z, e, f 0⟩)) ?_)
    rintro o h' ⟨b9, g3, ⟨rfl, rfl⟩, r3, z3, e3, f3⟩
    show AW Γ l mL_law_ 60 (b - 2) 1002 [vR 4000, vR 1, vR 171, vR 190, vI i, vI c, vU] [vI b9] (stt g3) K
    refine aw_istore (i := 6) (by decide +kernel) (by decide) ?_
    show AW Γ l mL_law_ 60 (b - 2) 1004 [vR 4000, vR 1, vR 171, vR 190, vI i, vI c, vI b9] [] (stt g3) K
    refine aw_aload_n (k' := 2) (by decide +kernel) rfl ?_
    refine aw_callV (y := yX12_thrown) (M2 := mX12_thrown) (as := []) (S := []) (idx := 145) (t := 171) (d2 := 0) (b2 := 0) (b3 := (b - 2)) cwX12_thrown (tb_mem 1322 (by decide +kernel) (by decide +kernel)) imX12_thrown seX12_thrown (by decide +kernel) rfl (ci := 10) rfl (OB.at (ci := 10) (show shp 171 = (20, 0) by decide +kernel) (by decide)) (by decide) (Nat.le_of_eq (Nat.zero_add _)) rfl rfl (by simp [oneSlot]) (Nat.le_of_ble_eq_true rfl) (wpX12_thrown ?_)
    show AW Γ l mL_law_ 60 (b - 2) 1008 [vR 4000, vR 1, vR 171, vR 190, vI i, vI c, vI b9] [vI (g3 171 0)] (stt g3) K
    refine aw_iload (i := 5) (by decide +kernel) rfl ?_
    refine ax_icmp_eq (off := 5) (tgt := 1015) (x' := wr (g3 171 0)) (y' := wr c) (by decide +kernel) (by decide) rfl rfl (fun hc8 => ?_) (fun hc8 => absurd (by rw [z3]) hc8)
    refine aw_iload (i := 5) (by decide +kernel) rfl ?_
    refine ax_if_ne (off := 15) (tgt := 1032) (x' := wr c) (by decide +kernel) (by decide) rfl (fun hc7 => ?_) (fun hc7 => ?_)
    · skip
      refine aw_goto (off := 1507) (tgt := 2539) (by decide +kernel) (by decide) ?_
      exact AW.locals (next g3 _ (by omega) r3) drop7
    · have hcr : 0 ≤ c ∧ c ≤ 2 := ha.1
      have hc0 : c = 0 := by have := wr_id (x := c) (by omega) (by omega); omega
      refine aw_aload_n (k' := 3) (by decide +kernel) rfl ?_
      refine aw_iconst (n := 0) (by decide +kernel) ?_
      refine aw_lald (t := 190) (j := 0) (n := 1) (by decide +kernel) (isA_lit (show shp 190 = (3, 1) by decide +kernel) (by decide)) (by decide +kernel) (by decide +kernel) ?_
      rw [wr_0]
      refine aw_iload (i := 6) (by decide +kernel) rfl ?_
      refine aw_i2l (by decide +kernel) ?_
      refine aw_lcmp (by decide +kernel) ?_
      have e0 : lCmp (g3 190 0) (wr b9) = 0 := by rw [f3, h190 hc0, e3 hc0]; exact lCmp_self _
      rw [e0]
      refine ax_if_eq (off := 5) (tgt := 1032) (x' := 0) (by decide +kernel) (by decide) (by decide +kernel) (fun _ => ?_) (fun hc5 => absurd rfl hc5)
      refine aw_goto (off := 1507) (tgt := 2539) (by decide +kernel) (by decide) ?_
      exact AW.locals (next g3 _ (by omega) r3) drop7
  refine aw_callSH (y := yL_finish) (M2 := mL_finish) (as := [vR 1, vI (SC Γ (i + 1)), vR 190]) (S := []) (idx := 183) (d2 := 0 + 5 + 1) (b2 := 2) (b3 := (b - 2)) cwL_finish (tb_mem 1068 (by decide +kernel) (by decide +kernel)) stL_finish (by decide +kernel) rfl (by decide) (by omega) rfl rfl (by simp [oneSlot]) (Nat.le_of_ble_eq_true rfl) (w_finish (d2 := 0 + 5) (Nat.le_refl _) (fun c v g1 ha => ha.1) (p_finish (Γ := Γ) (l := l) (d := 0) (p := SC Γ (i + 1)) h (wr_SC _)).pa (fun v g1 ha => T 0 v g1 _ ha lo9_out (fun _ => upd2_eq)) (fun c v g1 ha hc9 => T c v g1 g1 ha (fun _ _ _ => rfl) (fun z => absurd z (by omega))))
set_option maxHeartbeats 1000000 in
theorem lc_14 {Γ : Cfg} {l : Launch} {b : Nat} {i : Int} {g : GG} {K : Ou → HP → Prop} (hi : 0 ≤ i ∧ i + 6 ≤ (Γ.2.2.2.2.1 : Int)) (hN : Γ.2.2.2.2.1 ≤ 3072) (h : Rel9 g) (hb : 8 ≤ b) (next : ∀ (g' : GG) (b' : Nat), b - 4 ≤ b' → Rel9 g' → AW Γ l mL_law_ 60 b' 2539 [vR 4000, vR 1, vR 171, vR 190, vI i, vU, vU] [] (stt g') K) : AW Γ l mL_law_ 60 b 1035 [vR 4000, vR 1, vR 171, vR 190, vI i, vU, vU] [] (stt g) K := by
  refine aw_aload_n (k' := 1) (by decide +kernel) rfl ?_
  refine aw_aload_n (k' := 0) (by decide +kernel) rfl ?_
  refine aw_iload (i := 4) (by decide +kernel) rfl ?_
  refine aw_iconst (n := 1) (by decide +kernel) ?_
  refine aw_iadd (by decide +kernel) ?_
  refine aw_sld (x' := i + 1) (by decide +kernel) (wr_id (by omega) (by omega)) (by omega) ?_
  refine aw_aload_n (k' := 3) (by decide +kernel) rfl ?_
  have T : ∀ (c v : Int) (g1 g2 : GG), PA [eIO, eIS] (fun g2 K => Ct Γ l (0 + 7) 0 yX12_retract mX12_retract [vR 171, vI (SC Γ (i + 1))] (stt g2) K) c v g1 → lo9 g1 g2 → (c = 0 → g2 190 0 = wr v) → AW Γ l mL_law_ 60 (b - 2) 1046 [vR 4000, vR 1, vR 171, vR 190, vI i, vU, vU] [vI c] (stt g2) K := by
    intro c v g1 g2 ha hlo h190
    refine aw_istore (i := 5) (by decide +kernel) (by decide) ?_
    show AW Γ l mL_law_ 60 (b - 2) 1048 [vR 4000, vR 1, vR 171, vR 190, vI i, vI c, vU] [] (stt g2) K
    refine aw_aload_n (k' := 2) (by decide +kernel) rfl ?_
    refine aw_aload_n (k' := 0) (by decide +kernel) rfl ?_
    refine aw_iload (i := 4) (by decide +kernel) rfl ?_
    refine aw_iconst (n := 1) (by decide +kernel) ?_
    refine aw_iadd (by decide +kernel) ?_
    refine aw_sld (x' := i + 1) (by decide +kernel) (wr_id (by omega) (by omega)) (by omega) ?_
    refine aw_callV (y := yX12_retract) (M2 := mX12_retract) (as := [vI (SC Γ (i + 1))]) (S := []) (idx := 188) (t := 171) (d2 := 0 + 7) (b2 := 0) (b3 := (b - 2)) cwX12_retract (tb_mem 1809 (by decide +kernel) (by decide +kernel)) imX12_retract seX12_retract (by decide +kernel) rfl (ci := 10) rfl (OB.at (ci := 10) (show shp 171 = (20, 0) by decide +kernel) (by decide)) (by decide) (Nat.le_of_eq (Nat.zero_add _)) rfl rfl (by simp [oneSlot]) (Nat.le_of_ble_eq_true rfl) (Ct.mono (ha.2 g2 (fun b9 g3 => Rel9 g3 ∧ g3 171 0 = c ∧ (c = 0 → b9 = v) ∧ g3 190 0 = g2 190 0) hlo (fun b9 g3 r z e f => ⟨r, z, e, f 0⟩)) ?_)
    rintro o h' ⟨b9, g3, ⟨rfl, rfl⟩, r3, z3, e3, f3⟩
    show AW Γ l mL_law_ 60 (b - 2) 1058 [vR 4000, vR 1, vR 171, vR 190, vI i, vI c, vU] [vI b9] (stt g3) K
    refine aw_istore (i := 6) (by decide +kernel) (by decide) ?_
    show AW Γ l mL_law_ 60 (b - 2) 1060 [vR 4000, vR 1, vR 171, vR 190, vI i, vI c, vI b9] [] (stt g3) K
    refine aw_aload_n (k' := 2) (by decide +kernel) rfl ?_
    refine aw_callV (y := yX12_thrown) (M2 := mX12_thrown) (as := []) (S := []) (idx := 145) (t := 171) (d2 := 0) (b2 := 0) (b3 := (b - 2)) cwX12_thrown (tb_mem 1322 (by decide +kernel) (by decide +kernel)) imX12_thrown seX12_thrown (by decide +kernel) rfl (ci := 10) rfl (OB.at (ci := 10) (show shp 171 = (20, 0) by decide +kernel) (by decide)) (by decide) (Nat.le_of_eq (Nat.zero_add _)) rfl rfl (by simp [oneSlot]) (Nat.le_of_ble_eq_true rfl) (wpX12_thrown ?_)
    show AW Γ l mL_law_ 60 (b - 2) 1064 [vR 4000, vR 1, vR 171, vR 190, vI i, vI c, vI b9] [vI (g3 171 0)] (stt g3) K
    refine aw_iload (i := 5) (by decide +kernel) rfl ?_
    refine ax_icmp_eq (off := 5) (tgt := 1071) (x' := wr (g3 171 0)) (y' := wr c) (by decide +kernel) (by decide) rfl rfl (fun hc8 => ?_) (fun hc8 => absurd (by rw [z3]) hc8)
    refine aw_iload (i := 5) (by decide +kernel) rfl ?_
    refine ax_if_ne (off := 15) (tgt := 1088) (x' := wr c) (by decide +kernel) (by decide) rfl (fun hc7 => ?_) (fun hc7 => ?_)
    · skip
      refine aw_goto (off := 1451) (tgt := 2539) (by decide +kernel) (by decide) ?_
      exact AW.locals (next g3 _ (by omega) r3) drop7
    · have hcr : 0 ≤ c ∧ c ≤ 2 := ha.1
      have hc0 : c = 0 := by have := wr_id (x := c) (by omega) (by omega); omega
      refine aw_aload_n (k' := 3) (by decide +kernel) rfl ?_
      refine aw_iconst (n := 0) (by decide +kernel) ?_
      refine aw_lald (t := 190) (j := 0) (n := 1) (by decide +kernel) (isA_lit (show shp 190 = (3, 1) by decide +kernel) (by decide)) (by decide +kernel) (by decide +kernel) ?_
      rw [wr_0]
      refine aw_iload (i := 6) (by decide +kernel) rfl ?_
      refine aw_i2l (by decide +kernel) ?_
      refine aw_lcmp (by decide +kernel) ?_
      have e0 : lCmp (g3 190 0) (wr b9) = 0 := by rw [f3, h190 hc0, e3 hc0]; exact lCmp_self _
      rw [e0]
      refine ax_if_eq (off := 5) (tgt := 1088) (x' := 0) (by decide +kernel) (by decide) (by decide +kernel) (fun _ => ?_) (fun hc5 => absurd rfl hc5)
      refine aw_goto (off := 1451) (tgt := 2539) (by decide +kernel) (by decide) ?_
      exact AW.locals (next g3 _ (by omega) r3) drop7
  refine aw_callSH (y := yL_retract) (M2 := mL_retract) (as := [vR 1, vI (SC Γ (i + 1)), vR 190]) (S := []) (idx := 186) (d2 := 0 + 4 + 1) (b2 := 2) (b3 := (b - 2)) cwL_retract (tb_mem 1076 (by decide +kernel) (by decide +kernel)) stL_retract (by decide +kernel) rfl (by decide) (by omega) rfl rfl (by simp [oneSlot]) (Nat.le_of_ble_eq_true rfl) (w_retract (d2 := 0 + 4) (Nat.le_refl _) (fun c v g1 ha => ha.1) (p_retract (Γ := Γ) (l := l) (d := 0) (p := SC Γ (i + 1)) h (wr_SC _)).pa (fun v g1 ha => T 0 v g1 _ ha lo9_out (fun _ => upd2_eq)) (fun c v g1 ha hc9 => T c v g1 g1 ha (fun _ _ _ => rfl) (fun z => absurd z (by omega))))
set_option maxHeartbeats 1000000 in
theorem lc_15 {Γ : Cfg} {l : Launch} {b : Nat} {i : Int} {g : GG} {K : Ou → HP → Prop} (hi : 0 ≤ i ∧ i + 6 ≤ (Γ.2.2.2.2.1 : Int)) (hN : Γ.2.2.2.2.1 ≤ 3072) (h : Rel9 g) (hb : 8 ≤ b) (next : ∀ (g' : GG) (b' : Nat), b - 4 ≤ b' → Rel9 g' → AW Γ l mL_law_ 60 b' 2539 [vR 4000, vR 1, vR 171, vR 190, vI i, vU, vU] [] (stt g') K) : AW Γ l mL_law_ 60 b 1091 [vR 4000, vR 1, vR 171, vR 190, vI i, vU, vU] [] (stt g) K := by
  refine aw_aload_n (k' := 1) (by decide +kernel) rfl ?_
  refine aw_aload_n (k' := 0) (by decide +kernel) rfl ?_
  refine aw_iload (i := 4) (by decide +kernel) rfl ?_
  refine aw_iconst (n := 1) (by decide +kernel) ?_
  refine aw_iadd (by decide +kernel) ?_
  refine aw_sld (x' := i + 1) (by decide +kernel) (wr_id (by omega) (by omega)) (by omega) ?_
  refine aw_aload_n (k' := 0) (by decide +kernel) rfl ?_
  refine aw_iload (i := 4) (by decide +kernel) rfl ?_
  refine aw_iconst (n := 2) (by decide +kernel) ?_
  refine aw_iadd (by decide +kernel) ?_
  refine aw_sld (x' := i + 2) (by decide +kernel) (wr_id (by omega) (by omega)) (by omega) ?_
  refine aw_aload_n (k' := 3) (by decide +kernel) rfl ?_
  have T : ∀ (c v : Int) (g1 g2 : GG), PA [eIO, eIA] (fun g2 K => Ct Γ l (0 + 3) 0 yX12_guard mX12_guard [vR 171, vI (SC Γ (i + 1)), vI (SC Γ (i + 2))] (stt g2) K) c v g1 → lo9 g1 g2 → (c = 0 → g2 190 0 = wr v) → AW Γ l mL_law_ 60 (b - 2) 1108 [vR 4000, vR 1, vR 171, vR 190, vI i, vU, vU] [vI c] (stt g2) K := by
    intro c v g1 g2 ha hlo h190
    refine aw_istore (i := 5) (by decide +kernel) (by decide) ?_
    show AW Γ l mL_law_ 60 (b - 2) 1110 [vR 4000, vR 1, vR 171, vR 190, vI i, vI c, vU] [] (stt g2) K
    refine aw_aload_n (k' := 2) (by decide +kernel) rfl ?_
    refine aw_aload_n (k' := 0) (by decide +kernel) rfl ?_
    refine aw_iload (i := 4) (by decide +kernel) rfl ?_
    refine aw_iconst (n := 1) (by decide +kernel) ?_
    refine aw_iadd (by decide +kernel) ?_
    refine aw_sld (x' := i + 1) (by decide +kernel) (wr_id (by omega) (by omega)) (by omega) ?_
    refine aw_aload_n (k' := 0) (by decide +kernel) rfl ?_
    refine aw_iload (i := 4) (by decide +kernel) rfl ?_
    refine aw_iconst (n := 2) (by decide +kernel) ?_
    refine aw_iadd (by decide +kernel) ?_
    refine aw_sld (x' := i + 2) (by decide +kernel) (wr_id (by omega) (by omega)) (by omega) ?_
    refine aw_callV (y := yX12_guard) (M2 := mX12_guard) (as := [vI (SC Γ (i + 1)), vI (SC Γ (i + 2))]) (S := []) (idx := 191) (t := 171) (d2 := 0 + 3) (b2 := 0) (b3 := (b - 2)) cwX12_guard (tb_mem 1813 (by decide +kernel) (by decide +kernel)) imX12_guard seX12_guard (by decide +kernel) rfl (ci := 10) rfl (OB.at (ci := 10) (show shp 171 = (20, 0) by decide +kernel) (by decide)) (by decide) (Nat.le_of_eq (Nat.zero_add _)) rfl rfl (by simp [oneSlot]) (Nat.le_of_ble_eq_true rfl) (Ct.mono (ha.2 g2 (fun b9 g3 => Rel9 g3 ∧ g3 171 0 = c ∧ (c = 0 → b9 = v) ∧ g3 190 0 = g2 190 0) hlo (fun b9 g3 r z e f => ⟨r, z, e, f 0⟩)) ?_)
    rintro o h' ⟨b9, g3, ⟨rfl, rfl⟩, r3, z3, e3, f3⟩
    show AW Γ l mL_law_ 60 (b - 2) 1126 [vR 4000, vR 1, vR 171, vR 190, vI i, vI c, vU] [vI b9] (stt g3) K
    refine aw_istore (i := 6) (by decide +kernel) (by decide) ?_
    show AW Γ l mL_law_ 60 (b - 2) 1128 [vR 4000, vR 1, vR 171, vR 190, vI i, vI c, vI b9] [] (stt g3) K
    refine aw_aload_n (k' := 2) (by decide +kernel) rfl ?_
    refine aw_callV (y := yX12_thrown) (M2 := mX12_thrown) (as := []) (S := []) (idx := 145) (t := 171) (d2 := 0) (b2 := 0) (b3 := (b - 2)) cwX12_thrown (tb_mem 1322 (by decide +kernel) (by decide +kernel)) imX12_thrown seX12_thrown (by decide +kernel) rfl (ci := 10) rfl (OB.at (ci := 10) (show shp 171 = (20, 0) by decide +kernel) (by decide)) (by decide) (Nat.le_of_eq (Nat.zero_add _)) rfl rfl (by simp [oneSlot]) (Nat.le_of_ble_eq_true rfl) (wpX12_thrown ?_)
    show AW Γ l mL_law_ 60 (b - 2) 1132 [vR 4000, vR 1, vR 171, vR 190, vI i, vI c, vI b9] [vI (g3 171 0)] (stt g3) K
    refine aw_iload (i := 5) (by decide +kernel) rfl ?_
    refine ax_icmp_eq (off := 5) (tgt := 1139) (x' := wr (g3 171 0)) (y' := wr c) (by decide +kernel) (by decide) rfl rfl (fun hc8 => ?_) (fun hc8 => absurd (by rw [z3]) hc8)
    refine aw_iload (i := 5) (by decide +kernel) rfl ?_
    refine ax_if_ne (off := 15) (tgt := 1156) (x' := wr c) (by decide +kernel) (by decide) rfl (fun hc7 => ?_) (fun hc7 => ?_)
    · skip
      refine aw_goto (off := 1383) (tgt := 2539) (by decide +kernel) (by decide) ?_
      exact AW.locals (next g3 _ (by omega) r3) drop7
    · have hcr : 0 ≤ c ∧ c ≤ 2 := ha.1
      have hc0 : c = 0 := by have := wr_id (x := c) (by omega) (by omega); omega
      refine aw_aload_n (k' := 3) (by decide +kernel) rfl ?_
      refine aw_iconst (n := 0) (by decide +kernel) ?_
      refine aw_lald (t := 190) (j := 0) (n := 1) (by decide +kernel) (isA_lit (show shp 190 = (3, 1) by decide +kernel) (by decide)) (by decide +kernel) (by decide +kernel) ?_
      rw [wr_0]
      refine aw_iload (i := 6) (by decide +kernel) rfl ?_
      refine aw_i2l (by decide +kernel) ?_
      refine aw_lcmp (by decide +kernel) ?_
      have e0 : lCmp (g3 190 0) (wr b9) = 0 := by rw [f3, h190 hc0, e3 hc0]; exact lCmp_self _
      rw [e0]
      refine ax_if_eq (off := 5) (tgt := 1156) (x' := 0) (by decide +kernel) (by decide) (by decide +kernel) (fun _ => ?_) (fun hc5 => absurd rfl hc5)
      refine aw_goto (off := 1383) (tgt := 2539) (by decide +kernel) (by decide) ?_
      exact AW.locals (next g3 _ (by omega) r3) drop7
  refine aw_callSH (y := yL_guard) (M2 := mL_guard) (as := [vR 1, vI (SC Γ (i + 1)), vI (SC Γ (i + 2)), vR 190]) (S := []) (idx := 189) (d2 := 0 + 3 + 1) (b2 := 2) (b3 := (b - 2)) cwL_guard (tb_mem 1084 (by decide +kernel) (by decide +kernel)) stL_guard (by decide +kernel) rfl (by decide) (by omega) rfl rfl (by simp [oneSlot]) (Nat.le_of_ble_eq_true rfl) (w_guard (d2 := 0 + 3) (Nat.le_refl _) (fun c v g1 ha => ha.1) (p_guard (Γ := Γ) (l := l) (d := 0) (p := SC Γ (i + 1)) (n := SC Γ (i + 2)) h (wr_SC _) (wr_SC _)).pa (fun v g1 ha => T 0 v g1 _ ha lo9_out (fun _ => upd2_eq)) (fun c v g1 ha hc9 => T c v g1 g1 ha (fun _ _ _ => rfl) (fun z => absurd z (by omega))))
set_option maxHeartbeats 1000000 in
theorem lc_16 {Γ : Cfg} {l : Launch} {b : Nat} {i : Int} {g : GG} {K : Ou → HP → Prop} (hi : 0 ≤ i ∧ i + 6 ≤ (Γ.2.2.2.2.1 : Int)) (hN : Γ.2.2.2.2.1 ≤ 3072) (h : Rel9 g) (hb : 8 ≤ b) (next : ∀ (g' : GG) (b' : Nat), b - 4 ≤ b' → Rel9 g' → AW Γ l mL_law_ 60 b' 2539 [vR 4000, vR 1, vR 171, vR 190, vI i, vU, vU] [] (stt g') K) : AW Γ l mL_law_ 60 b 1159 [vR 4000, vR 1, vR 171, vR 190, vI i, vU, vU] [] (stt g) K := by
  refine aw_aload_n (k' := 1) (by decide +kernel) rfl ?_
  refine aw_aload_n (k' := 0) (by decide +kernel) rfl ?_
  refine aw_iload (i := 4) (by decide +kernel) rfl ?_
  refine aw_iconst (n := 1) (by decide +kernel) ?_
  refine aw_iadd (by decide +kernel) ?_
  refine aw_sld (x' := i + 1) (by decide +kernel) (wr_id (by omega) (by omega)) (by omega) ?_
  refine aw_aload_n (k' := 3) (by decide +kernel) rfl ?_
  have T : ∀ (c v : Int) (g1 g2 : GG), PA [eIA] (fun g2 K => Ct Γ l (0 + 2) 0 yX12_noise mX12_noise [vR 171, vI (SC Γ (i + 1))] (stt g2) K) c v g1 → lo9 g1 g2 → (c = 0 → g2 190 0 = wr v) → AW Γ l mL_law_ 60 (b - 1) 1170 [vR 4000, vR 1, vR 171, vR 190, vI i, vU, vU] [vI c] (stt g2) K := by
    intro c v g1 g2 ha hlo h190
    refine aw_istore (i := 5) (by decide +kernel) (by decide) ?_
    show AW Γ l mL_law_ 60 (b - 1) 1172 [vR 4000, vR 1, vR 171, vR 190, vI i, vI c, vU] [] (stt g2) K
    refine aw_aload_n (k' := 2) (by decide +kernel) rfl ?_
    refine aw_aload_n (k' := 0) (by decide +kernel) rfl ?_
    refine aw_iload (i := 4) (by decide +kernel) rfl ?_
    refine aw_iconst (n := 1) (by decide +kernel) ?_
    refine aw_iadd (by decide +kernel) ?_
    refine aw_sld (x' := i + 1) (by decide +kernel) (wr_id (by omega) (by omega)) (by omega) ?_
    refine aw_callV (y := yX12_noise) (M2 := mX12_noise) (as := [vI (SC Γ (i + 1))]) (S := []) (idx := 194) (t := 171) (d2 := 0 + 2) (b2 := 0) (b3 := (b - 1)) cwX12_noise (tb_mem 1821 (by decide +kernel) (by decide +kernel)) imX12_noise seX12_noise (by decide +kernel) rfl (ci := 10) rfl (OB.at (ci := 10) (show shp 171 = (20, 0) by decide +kernel) (by decide)) (by decide) (Nat.le_of_eq (Nat.zero_add _)) rfl rfl (by simp [oneSlot]) (Nat.le_of_ble_eq_true rfl) (Ct.mono (ha.2 g2 (fun b9 g3 => Rel9 g3 ∧ g3 171 0 = c ∧ (c = 0 → b9 = v) ∧ g3 190 0 = g2 190 0) hlo (fun b9 g3 r z e f => ⟨r, z, e, f 0⟩)) ?_)
    rintro o h' ⟨b9, g3, ⟨rfl, rfl⟩, r3, z3, e3, f3⟩
    show AW Γ l mL_law_ 60 (b - 1) 1182 [vR 4000, vR 1, vR 171, vR 190, vI i, vI c, vU] [vI b9] (stt g3) K
    refine aw_istore (i := 6) (by decide +kernel) (by decide) ?_
    show AW Γ l mL_law_ 60 (b - 1) 1184 [vR 4000, vR 1, vR 171, vR 190, vI i, vI c, vI b9] [] (stt g3) K
    refine aw_aload_n (k' := 2) (by decide +kernel) rfl ?_
    refine aw_callV (y := yX12_thrown) (M2 := mX12_thrown) (as := []) (S := []) (idx := 145) (t := 171) (d2 := 0) (b2 := 0) (b3 := (b - 1)) cwX12_thrown (tb_mem 1322 (by decide +kernel) (by decide +kernel)) imX12_thrown seX12_thrown (by decide +kernel) rfl (ci := 10) rfl (OB.at (ci := 10) (show shp 171 = (20, 0) by decide +kernel) (by decide)) (by decide) (Nat.le_of_eq (Nat.zero_add _)) rfl rfl (by simp [oneSlot]) (Nat.le_of_ble_eq_true rfl) (wpX12_thrown ?_)
    show AW Γ l mL_law_ 60 (b - 1) 1188 [vR 4000, vR 1, vR 171, vR 190, vI i, vI c, vI b9] [vI (g3 171 0)] (stt g3) K
    refine aw_iload (i := 5) (by decide +kernel) rfl ?_
    refine ax_icmp_eq (off := 5) (tgt := 1195) (x' := wr (g3 171 0)) (y' := wr c) (by decide +kernel) (by decide) rfl rfl (fun hc8 => ?_) (fun hc8 => absurd (by rw [z3]) hc8)
    refine aw_iload (i := 5) (by decide +kernel) rfl ?_
    refine ax_if_ne (off := 15) (tgt := 1212) (x' := wr c) (by decide +kernel) (by decide) rfl (fun hc7 => ?_) (fun hc7 => ?_)
    · skip
      refine aw_goto (off := 1327) (tgt := 2539) (by decide +kernel) (by decide) ?_
      exact AW.locals (next g3 _ (by omega) r3) drop7
    · have hcr : 0 ≤ c ∧ c ≤ 1 := ha.1
      have hc0 : c = 0 := by have := wr_id (x := c) (by omega) (by omega); omega
      refine aw_aload_n (k' := 3) (by decide +kernel) rfl ?_
      refine aw_iconst (n := 0) (by decide +kernel) ?_
      refine aw_lald (t := 190) (j := 0) (n := 1) (by decide +kernel) (isA_lit (show shp 190 = (3, 1) by decide +kernel) (by decide)) (by decide +kernel) (by decide +kernel) ?_
      rw [wr_0]
      refine aw_iload (i := 6) (by decide +kernel) rfl ?_
      refine aw_i2l (by decide +kernel) ?_
      refine aw_lcmp (by decide +kernel) ?_
      have e0 : lCmp (g3 190 0) (wr b9) = 0 := by rw [f3, h190 hc0, e3 hc0]; exact lCmp_self _
      rw [e0]
      refine ax_if_eq (off := 5) (tgt := 1212) (x' := 0) (by decide +kernel) (by decide) (by decide +kernel) (fun _ => ?_) (fun hc5 => absurd rfl hc5)
      refine aw_goto (off := 1327) (tgt := 2539) (by decide +kernel) (by decide) ?_
      exact AW.locals (next g3 _ (by omega) r3) drop7
  refine aw_callSH (y := yL_noise) (M2 := mL_noise) (as := [vR 1, vI (SC Γ (i + 1)), vR 190]) (S := []) (idx := 192) (d2 := 0 + 3 + 1) (b2 := 1) (b3 := (b - 1)) cwL_noise (tb_mem 1091 (by decide +kernel) (by decide +kernel)) stL_noise (by decide +kernel) rfl (by decide) (by omega) rfl rfl (by simp [oneSlot]) (Nat.le_of_ble_eq_true rfl) (w_noise (d2 := 0 + 3) (Nat.le_refl _) (fun c v g1 ha => ha.1) (p_noise (Γ := Γ) (l := l) (d := 0) (n := SC Γ (i + 1)) h (wr_SC _)).pa (fun v g1 ha => T 0 v g1 _ ha lo9_out (fun _ => upd2_eq)) (fun c v g1 ha hc9 => T c v g1 g1 ha (fun _ _ _ => rfl) (fun z => absurd z (by omega))))
set_option maxHeartbeats 1000000 in
theorem lc_17 {Γ : Cfg} {l : Launch} {b : Nat} {i : Int} {g : GG} {K : Ou → HP → Prop} (hi : 0 ≤ i ∧ i + 6 ≤ (Γ.2.2.2.2.1 : Int)) (hN : Γ.2.2.2.2.1 ≤ 3072) (h : Rel9 g) (hb : 8 ≤ b) (next : ∀ (g' : GG) (b' : Nat), b - 4 ≤ b' → Rel9 g' → AW Γ l mL_law_ 60 b' 2539 [vR 4000, vR 1, vR 171, vR 190, vI i, vU, vU] [] (stt g') K) : AW Γ l mL_law_ 60 b 1215 [vR 4000, vR 1, vR 171, vR 190, vI i, vU, vU] [] (stt g) K := by
  refine aw_aload_n (k' := 1) (by decide +kernel) rfl ?_
  refine aw_aload_n (k' := 0) (by decide +kernel) rfl ?_
  refine aw_iload (i := 4) (by decide +kernel) rfl ?_
  refine aw_iconst (n := 1) (by decide +kernel) ?_
  refine aw_iadd (by decide +kernel) ?_
  refine aw_sld (x' := i + 1) (by decide +kernel) (wr_id (by omega) (by omega)) (by omega) ?_
  refine aw_aload_n (k' := 0) (by decide +kernel) rfl ?_
  refine aw_iload (i := 4) (by decide +kernel) rfl ?_
  refine aw_iconst (n := 2) (by decide +kernel) ?_
  refine aw_iadd (by decide +kernel) ?_
  refine aw_sld (x' := i + 2) (by decide +kernel) (wr_id (by omega) (by omega)) (by omega) ?_
  refine aw_aload_n (k' := 3) (by decide +kernel) rfl ?_
  have T : ∀ (c v : Int) (g1 g2 : GG), PA [eIO, eIA] (fun g2 K => Ct Γ l (0 + 2) 0 yX12_turn mX12_turn [vR 171, vI (SC Γ (i + 1)), vI (SC Γ (i + 2))] (stt g2) K) c v g1 → lo9 g1 g2 → (c = 0 → g2 190 0 = wr v) → AW Γ l mL_law_ 60 (b - 2) 1232 [vR 4000, vR 1, vR 171, vR 190, vI i, vU, vU] [vI c] (stt g2) K := by
    intro c v g1 g2 ha hlo h190
    refine aw_istore (i := 5) (by decide +kernel) (by decide) ?_
    show AW Γ l mL_law_ 60 (b - 2) 1234 [vR 4000, vR 1, vR 171, vR 190, vI i, vI c, vU] [] (stt g2) K
    refine aw_aload_n (k' := 2) (by decide +kernel) rfl ?_
    refine aw_aload_n (k' := 0) (by decide +kernel) rfl ?_
    refine aw_iload (i := 4) (by decide +kernel) rfl ?_
    refine aw_iconst (n := 1) (by decide +kernel) ?_
    refine aw_iadd (by decide +kernel) ?_
    refine aw_sld (x' := i + 1) (by decide +kernel) (wr_id (by omega) (by omega)) (by omega) ?_
    refine aw_aload_n (k' := 0) (by decide +kernel) rfl ?_
    refine aw_iload (i := 4) (by decide +kernel) rfl ?_
    refine aw_iconst (n := 2) (by decide +kernel) ?_
    refine aw_iadd (by decide +kernel) ?_
    refine aw_sld (x' := i + 2) (by decide +kernel) (wr_id (by omega) (by omega)) (by omega) ?_
    refine aw_callV (y := yX12_turn) (M2 := mX12_turn) (as := [vI (SC Γ (i + 1)), vI (SC Γ (i + 2))]) (S := []) (idx := 197) (t := 171) (d2 := 0 + 2) (b2 := 0) (b3 := (b - 2)) cwX12_turn (tb_mem 1825 (by decide +kernel) (by decide +kernel)) imX12_turn seX12_turn (by decide +kernel) rfl (ci := 10) rfl (OB.at (ci := 10) (show shp 171 = (20, 0) by decide +kernel) (by decide)) (by decide) (Nat.le_of_eq (Nat.zero_add _)) rfl rfl (by simp [oneSlot]) (Nat.le_of_ble_eq_true rfl) (Ct.mono (ha.2 g2 (fun b9 g3 => Rel9 g3 ∧ g3 171 0 = c ∧ (c = 0 → b9 = v) ∧ g3 190 0 = g2 190 0) hlo (fun b9 g3 r z e f => ⟨r, z, e, f 0⟩)) ?_)
    rintro o h' ⟨b9, g3, ⟨rfl, rfl⟩, r3, z3, e3, f3⟩
    show AW Γ l mL_law_ 60 (b - 2) 1250 [vR 4000, vR 1, vR 171, vR 190, vI i, vI c, vU] [vI b9] (stt g3) K
    refine aw_istore (i := 6) (by decide +kernel) (by decide) ?_
    show AW Γ l mL_law_ 60 (b - 2) 1252 [vR 4000, vR 1, vR 171, vR 190, vI i, vI c, vI b9] [] (stt g3) K
    refine aw_aload_n (k' := 2) (by decide +kernel) rfl ?_
    refine aw_callV (y := yX12_thrown) (M2 := mX12_thrown) (as := []) (S := []) (idx := 145) (t := 171) (d2 := 0) (b2 := 0) (b3 := (b - 2)) cwX12_thrown (tb_mem 1322 (by decide +kernel) (by decide +kernel)) imX12_thrown seX12_thrown (by decide +kernel) rfl (ci := 10) rfl (OB.at (ci := 10) (show shp 171 = (20, 0) by decide +kernel) (by decide)) (by decide) (Nat.le_of_eq (Nat.zero_add _)) rfl rfl (by simp [oneSlot]) (Nat.le_of_ble_eq_true rfl) (wpX12_thrown ?_)
    show AW Γ l mL_law_ 60 (b - 2) 1256 [vR 4000, vR 1, vR 171, vR 190, vI i, vI c, vI b9] [vI (g3 171 0)] (stt g3) K
    refine aw_iload (i := 5) (by decide +kernel) rfl ?_
    refine ax_icmp_eq (off := 5) (tgt := 1263) (x' := wr (g3 171 0)) (y' := wr c) (by decide +kernel) (by decide) rfl rfl (fun hc8 => ?_) (fun hc8 => absurd (by rw [z3]) hc8)
    refine aw_iload (i := 5) (by decide +kernel) rfl ?_
    refine ax_if_ne (off := 15) (tgt := 1280) (x' := wr c) (by decide +kernel) (by decide) rfl (fun hc7 => ?_) (fun hc7 => ?_)
    · skip
      refine aw_goto (off := 1259) (tgt := 2539) (by decide +kernel) (by decide) ?_
      exact AW.locals (next g3 _ (by omega) r3) drop7
    · have hcr : 0 ≤ c ∧ c ≤ 2 := ha.1
      have hc0 : c = 0 := by have := wr_id (x := c) (by omega) (by omega); omega
      refine aw_aload_n (k' := 3) (by decide +kernel) rfl ?_
      refine aw_iconst (n := 0) (by decide +kernel) ?_
      refine aw_lald (t := 190) (j := 0) (n := 1) (by decide +kernel) (isA_lit (show shp 190 = (3, 1) by decide +kernel) (by decide)) (by decide +kernel) (by decide +kernel) ?_
      rw [wr_0]
      refine aw_iload (i := 6) (by decide +kernel) rfl ?_
      refine aw_i2l (by decide +kernel) ?_
      refine aw_lcmp (by decide +kernel) ?_
      have e0 : lCmp (g3 190 0) (wr b9) = 0 := by rw [f3, h190 hc0, e3 hc0]; exact lCmp_self _
      rw [e0]
      refine ax_if_eq (off := 5) (tgt := 1280) (x' := 0) (by decide +kernel) (by decide) (by decide +kernel) (fun _ => ?_) (fun hc5 => absurd rfl hc5)
      refine aw_goto (off := 1259) (tgt := 2539) (by decide +kernel) (by decide) ?_
      exact AW.locals (next g3 _ (by omega) r3) drop7
  refine aw_callSH (y := yL_turn) (M2 := mL_turn) (as := [vR 1, vI (SC Γ (i + 1)), vI (SC Γ (i + 2)), vR 190]) (S := []) (idx := 195) (d2 := 0 + 3 + 1) (b2 := 2) (b3 := (b - 2)) cwL_turn (tb_mem 1098 (by decide +kernel) (by decide +kernel)) stL_turn (by decide +kernel) rfl (by decide) (by omega) rfl rfl (by simp [oneSlot]) (Nat.le_of_ble_eq_true rfl) (w_turn (d2 := 0 + 3) (Nat.le_refl _) (fun c v g1 ha => ha.1) (p_turn (Γ := Γ) (l := l) (d := 0) (p := SC Γ (i + 1)) (n := SC Γ (i + 2)) h (wr_SC _) (wr_SC _)).pa (fun v g1 ha => T 0 v g1 _ ha lo9_out (fun _ => upd2_eq)) (fun c v g1 ha hc9 => T c v g1 g1 ha (fun _ _ _ => rfl) (fun z => absurd z (by omega))))
set_option maxHeartbeats 1000000 in
theorem lc_18 {Γ : Cfg} {l : Launch} {b : Nat} {i : Int} {g : GG} {K : Ou → HP → Prop} (hi : 0 ≤ i ∧ i + 6 ≤ (Γ.2.2.2.2.1 : Int)) (hN : Γ.2.2.2.2.1 ≤ 3072) (h : Rel9 g) (hb : 8 ≤ b) (next : ∀ (g' : GG) (b' : Nat), b - 4 ≤ b' → Rel9 g' → AW Γ l mL_law_ 60 b' 2539 [vR 4000, vR 1, vR 171, vR 190, vI i, vU, vU] [] (stt g') K) : AW Γ l mL_law_ 60 b 1283 [vR 4000, vR 1, vR 171, vR 190, vI i, vU, vU] [] (stt g) K := by
  refine aw_aload_n (k' := 1) (by decide +kernel) rfl ?_
  refine aw_aload_n (k' := 0) (by decide +kernel) rfl ?_
  refine aw_iload (i := 4) (by decide +kernel) rfl ?_
  refine aw_iconst (n := 1) (by decide +kernel) ?_
  refine aw_iadd (by decide +kernel) ?_
  refine aw_sld (x' := i + 1) (by decide +kernel) (wr_id (by omega) (by omega)) (by omega) ?_
  refine aw_aload_n (k' := 0) (by decide +kernel) rfl ?_
  refine aw_iload (i := 4) (by decide +kernel) rfl ?_
  refine aw_iconst (n := 2) (by decide +kernel) ?_
  refine aw_iadd (by decide +kernel) ?_
  refine aw_sld (x' := i + 2) (by decide +kernel) (wr_id (by omega) (by omega)) (by omega) ?_
  refine aw_aload_n (k' := 3) (by decide +kernel) rfl ?_
  have T : ∀ (c v : Int) (g1 g2 : GG), PA [eIO, eIA, eIS] (fun g2 K => Ct Γ l (0 + 3) 0 yX12_repeat mX12_repeat [vR 171, vI (SC Γ (i + 1)), vI (SC Γ (i + 2))] (stt g2) K) c v g1 → lo9 g1 g2 → (c = 0 → g2 190 0 = wr v) → AW Γ l mL_law_ 60 (b - 4) 1300 [vR 4000, vR 1, vR 171, vR 190, vI i, vU, vU] [vI c] (stt g2) K := by
    intro c v g1 g2 ha hlo h190
    refine aw_istore (i := 5) (by decide +kernel) (by decide) ?_
    show AW Γ l mL_law_ 60 (b - 4) 1302 [vR 4000, vR 1, vR 171, vR 190, vI i, vI c, vU] [] (stt g2) K
    refine aw_aload_n (k' := 2) (by decide +kernel) rfl ?_
    refine aw_aload_n (k' := 0) (by decide +kernel) rfl ?_
    refine aw_iload (i := 4) (by decide +kernel) rfl ?_
    refine aw_iconst (n := 1) (by decide +kernel) ?_
    refine aw_iadd (by decide +kernel) ?_
    refine aw_sld (x' := i + 1) (by decide +kernel) (wr_id (by omega) (by omega)) (by omega) ?_
    refine aw_aload_n (k' := 0) (by decide +kernel) rfl ?_
    refine aw_iload (i := 4) (by decide +kernel) rfl ?_
    refine aw_iconst (n := 2) (by decide +kernel) ?_
    refine aw_iadd (by decide +kernel) ?_
    refine aw_sld (x' := i + 2) (by decide +kernel) (wr_id (by omega) (by omega)) (by omega) ?_
    refine aw_callV (y := yX12_repeat) (M2 := mX12_repeat) (as := [vI (SC Γ (i + 1)), vI (SC Γ (i + 2))]) (S := []) (idx := 200) (t := 171) (d2 := 0 + 3) (b2 := 0) (b3 := (b - 4)) cwX12_repeat (tb_mem 1829 (by decide +kernel) (by decide +kernel)) imX12_repeat seX12_repeat (by decide +kernel) rfl (ci := 10) rfl (OB.at (ci := 10) (show shp 171 = (20, 0) by decide +kernel) (by decide)) (by decide) (Nat.le_of_eq (Nat.zero_add _)) rfl rfl (by simp [oneSlot]) (Nat.le_of_ble_eq_true rfl) (Ct.mono (ha.2 g2 (fun b9 g3 => Rel9 g3 ∧ g3 171 0 = c ∧ (c = 0 → b9 = v) ∧ g3 190 0 = g2 190 0) hlo (fun b9 g3 r z e f => ⟨r, z, e, f 0⟩)) ?_)
    rintro o h' ⟨b9, g3, ⟨rfl, rfl⟩, r3, z3, e3, f3⟩
    show AW Γ l mL_law_ 60 (b - 4) 1318 [vR 4000, vR 1, vR 171, vR 190, vI i, vI c, vU] [vI b9] (stt g3) K
    refine aw_istore (i := 6) (by decide +kernel) (by decide) ?_
    show AW Γ l mL_law_ 60 (b - 4) 1320 [vR 4000, vR 1, vR 171, vR 190, vI i, vI c, vI b9] [] (stt g3) K
    refine aw_aload_n (k' := 2) (by decide +kernel) rfl ?_
    refine aw_callV (y := yX12_thrown) (M2 := mX12_thrown) (as := []) (S := []) (idx := 145) (t := 171) (d2 := 0) (b2 := 0) (b3 := (b - 4)) cwX12_thrown (tb_mem 1322 (by decide +kernel) (by decide +kernel)) imX12_thrown seX12_thrown (by decide +kernel) rfl (ci := 10) rfl (OB.at (ci := 10) (show shp 171 = (20, 0) by decide +kernel) (by decide)) (by decide) (Nat.le_of_eq (Nat.zero_add _)) rfl rfl (by simp [oneSlot]) (Nat.le_of_ble_eq_true rfl) (wpX12_thrown ?_)
    show AW Γ l mL_law_ 60 (b - 4) 1324 [vR 4000, vR 1, vR 171, vR 190, vI i, vI c, vI b9] [vI (g3 171 0)] (stt g3) K
    refine aw_iload (i := 5) (by decide +kernel) rfl ?_
    refine ax_icmp_eq (off := 5) (tgt := 1331) (x' := wr (g3 171 0)) (y' := wr c) (by decide +kernel) (by decide) rfl rfl (fun hc8 => ?_) (fun hc8 => absurd (by rw [z3]) hc8)
    refine aw_iload (i := 5) (by decide +kernel) rfl ?_
    refine ax_if_ne (off := 15) (tgt := 1348) (x' := wr c) (by decide +kernel) (by decide) rfl (fun hc7 => ?_) (fun hc7 => ?_)
    · skip
      refine aw_goto (off := 1191) (tgt := 2539) (by decide +kernel) (by decide) ?_
      exact AW.locals (next g3 _ (by omega) r3) drop7
    · have hcr : 0 ≤ c ∧ c ≤ 3 := ha.1
      have hc0 : c = 0 := by have := wr_id (x := c) (by omega) (by omega); omega
      refine aw_aload_n (k' := 3) (by decide +kernel) rfl ?_
      refine aw_iconst (n := 0) (by decide +kernel) ?_
      refine aw_lald (t := 190) (j := 0) (n := 1) (by decide +kernel) (isA_lit (show shp 190 = (3, 1) by decide +kernel) (by decide)) (by decide +kernel) (by decide +kernel) ?_
      rw [wr_0]
      refine aw_iload (i := 6) (by decide +kernel) rfl ?_
      refine aw_i2l (by decide +kernel) ?_
      refine aw_lcmp (by decide +kernel) ?_
      have e0 : lCmp (g3 190 0) (wr b9) = 0 := by rw [f3, h190 hc0, e3 hc0]; exact lCmp_self _
      rw [e0]
      refine ax_if_eq (off := 5) (tgt := 1348) (x' := 0) (by decide +kernel) (by decide) (by decide +kernel) (fun _ => ?_) (fun hc5 => absurd rfl hc5)
      refine aw_goto (off := 1191) (tgt := 2539) (by decide +kernel) (by decide) ?_
      exact AW.locals (next g3 _ (by omega) r3) drop7
  refine aw_callSH (y := yL_repeat) (M2 := mL_repeat) (as := [vR 1, vI (SC Γ (i + 1)), vI (SC Γ (i + 2)), vR 190]) (S := []) (idx := 198) (d2 := 0 + 3 + 1) (b2 := 4) (b3 := (b - 4)) cwL_repeat (tb_mem 1105 (by decide +kernel) (by decide +kernel)) stL_repeat (by decide +kernel) rfl (by decide) (by omega) rfl rfl (by simp [oneSlot]) (Nat.le_of_ble_eq_true rfl) (w_repeat (d2 := 0 + 3) (Nat.le_refl _) (fun c v g1 ha => ha.1) (p_repeat (Γ := Γ) (l := l) (d := 0) (p := SC Γ (i + 1)) (q := SC Γ (i + 2)) h (wr_SC _) (wr_SC _)).pa (fun v g1 ha => T 0 v g1 _ ha lo9_out (fun _ => upd2_eq)) (fun c v g1 ha hc9 => T c v g1 g1 ha (fun _ _ _ => rfl) (fun z => absurd z (by omega))))
set_option maxHeartbeats 1000000 in
theorem lc_19 {Γ : Cfg} {l : Launch} {b : Nat} {i : Int} {g : GG} {K : Ou → HP → Prop} (hi : 0 ≤ i ∧ i + 6 ≤ (Γ.2.2.2.2.1 : Int)) (hN : Γ.2.2.2.2.1 ≤ 3072) (h : Rel9 g) (hb : 8 ≤ b) (next : ∀ (g' : GG) (b' : Nat), b - 4 ≤ b' → Rel9 g' → AW Γ l mL_law_ 60 b' 2539 [vR 4000, vR 1, vR 171, vR 190, vI i, vU, vU] [] (stt g') K) : AW Γ l mL_law_ 60 b 1351 [vR 4000, vR 1, vR 171, vR 190, vI i, vU, vU] [] (stt g) K := by
  refine aw_aload_n (k' := 1) (by decide +kernel) rfl ?_
  refine aw_aload_n (k' := 0) (by decide +kernel) rfl ?_
  refine aw_iload (i := 4) (by decide +kernel) rfl ?_
  refine aw_iconst (n := 1) (by decide +kernel) ?_
  refine aw_iadd (by decide +kernel) ?_
  refine aw_sld (x' := i + 1) (by decide +kernel) (wr_id (by omega) (by omega)) (by omega) ?_
  refine aw_aload_n (k' := 0) (by decide +kernel) rfl ?_
  refine aw_iload (i := 4) (by decide +kernel) rfl ?_
  refine aw_iconst (n := 2) (by decide +kernel) ?_
  refine aw_iadd (by decide +kernel) ?_
  refine aw_sld (x' := i + 2) (by decide +kernel) (wr_id (by omega) (by omega)) (by omega) ?_
  refine aw_aload_n (k' := 3) (by decide +kernel) rfl ?_
  have T : ∀ (c v : Int) (g1 g2 : GG), PA [eIO] (fun g2 K => Ct Γ l (0 + 9) 0 yX12_order mX12_order [vR 171, vI (SC Γ (i + 1)), vI (SC Γ (i + 2))] (stt g2) K) c v g1 → lo9 g1 g2 → (c = 0 → g2 190 0 = wr v) → AW Γ l mL_law_ 60 (b - 1) 1368 [vR 4000, vR 1, vR 171, vR 190, vI i, vU, vU] [vI c] (stt g2) K := by
    intro c v g1 g2 ha hlo h190
    refine aw_istore (i := 5) (by decide +kernel) (by decide) ?_
    show AW Γ l mL_law_ 60 (b - 1) 1370 [vR 4000, vR 1, vR 171, vR 190, vI i, vI c, vU] [] (stt g2) K
    refine aw_aload_n (k' := 2) (by decide +kernel) rfl ?_
    refine aw_aload_n (k' := 0) (by decide +kernel) rfl ?_
    refine aw_iload (i := 4) (by decide +kernel) rfl ?_
    refine aw_iconst (n := 1) (by decide +kernel) ?_
    refine aw_iadd (by decide +kernel) ?_
    refine aw_sld (x' := i + 1) (by decide +kernel) (wr_id (by omega) (by omega)) (by omega) ?_
    refine aw_aload_n (k' := 0) (by decide +kernel) rfl ?_
    refine aw_iload (i := 4) (by decide +kernel) rfl ?_
    refine aw_iconst (n := 2) (by decide +kernel) ?_
    refine aw_iadd (by decide +kernel) ?_
    refine aw_sld (x' := i + 2) (by decide +kernel) (wr_id (by omega) (by omega)) (by omega) ?_
    refine aw_callV (y := yX12_order) (M2 := mX12_order) (as := [vI (SC Γ (i + 1)), vI (SC Γ (i + 2))]) (S := []) (idx := 203) (t := 171) (d2 := 0 + 9) (b2 := 0) (b3 := (b - 1)) cwX12_order (tb_mem 1833 (by decide +kernel) (by decide +kernel)) imX12_order seX12_order (by decide +kernel) rfl (ci := 10) rfl (OB.at (ci := 10) (show shp 171 = (20, 0) by decide +kernel) (by decide)) (by decide) (Nat.le_of_eq (Nat.zero_add _)) rfl rfl (by simp [oneSlot]) (Nat.le_of_ble_eq_true rfl) (Ct.mono (ha.2 g2 (fun b9 g3 => Rel9 g3 ∧ g3 171 0 = c ∧ (c = 0 → b9 = v) ∧ g3 190 0 = g2 190 0) hlo (fun b9 g3 r z e f => ⟨r, z, e, f 0⟩)) ?_)
    rintro o h' ⟨b9, g3, ⟨rfl, rfl⟩, r3, z3, e3, f3⟩
    show AW Γ l mL_law_ 60 (b - 1) 1386 [vR 4000, vR 1, vR 171, vR 190, vI i, vI c, vU] [vI b9] (stt g3) K
    refine aw_istore (i := 6) (by decide +kernel) (by decide) ?_
    show AW Γ l mL_law_ 60 (b - 1) 1388 [vR 4000, vR 1, vR 171, vR 190, vI i, vI c, vI b9] [] (stt g3) K
    refine aw_aload_n (k' := 2) (by decide +kernel) rfl ?_
    refine aw_callV (y := yX12_thrown) (M2 := mX12_thrown) (as := []) (S := []) (idx := 145) (t := 171) (d2 := 0) (b2 := 0) (b3 := (b - 1)) cwX12_thrown (tb_mem 1322 (by decide +kernel) (by decide +kernel)) imX12_thrown seX12_thrown (by decide +kernel) rfl (ci := 10) rfl (OB.at (ci := 10) (show shp 171 = (20, 0) by decide +kernel) (by decide)) (by decide) (Nat.le_of_eq (Nat.zero_add _)) rfl rfl (by simp [oneSlot]) (Nat.le_of_ble_eq_true rfl) (wpX12_thrown ?_)
    show AW Γ l mL_law_ 60 (b - 1) 1392 [vR 4000, vR 1, vR 171, vR 190, vI i, vI c, vI b9] [vI (g3 171 0)] (stt g3) K
    refine aw_iload (i := 5) (by decide +kernel) rfl ?_
    refine ax_icmp_eq (off := 5) (tgt := 1399) (x' := wr (g3 171 0)) (y' := wr c) (by decide +kernel) (by decide) rfl rfl (fun hc8 => ?_) (fun hc8 => absurd (by rw [z3]) hc8)
    refine aw_iload (i := 5) (by decide +kernel) rfl ?_
    refine ax_if_ne (off := 15) (tgt := 1416) (x' := wr c) (by decide +kernel) (by decide) rfl (fun hc7 => ?_) (fun hc7 => ?_)
    · skip
      refine aw_goto (off := 1123) (tgt := 2539) (by decide +kernel) (by decide) ?_
      exact AW.locals (next g3 _ (by omega) r3) drop7
    · have hcr : 0 ≤ c ∧ c ≤ 1 := ha.1
      have hc0 : c = 0 := by have := wr_id (x := c) (by omega) (by omega); omega
      refine aw_aload_n (k' := 3) (by decide +kernel) rfl ?_
      refine aw_iconst (n := 0) (by decide +kernel) ?_
      refine aw_lald (t := 190) (j := 0) (n := 1) (by decide +kernel) (isA_lit (show shp 190 = (3, 1) by decide +kernel) (by decide)) (by decide +kernel) (by decide +kernel) ?_
      rw [wr_0]
      refine aw_iload (i := 6) (by decide +kernel) rfl ?_
      refine aw_i2l (by decide +kernel) ?_
      refine aw_lcmp (by decide +kernel) ?_
      have e0 : lCmp (g3 190 0) (wr b9) = 0 := by rw [f3, h190 hc0, e3 hc0]; exact lCmp_self _
      rw [e0]
      refine ax_if_eq (off := 5) (tgt := 1416) (x' := 0) (by decide +kernel) (by decide) (by decide +kernel) (fun _ => ?_) (fun hc5 => absurd rfl hc5)
      refine aw_goto (off := 1123) (tgt := 2539) (by decide +kernel) (by decide) ?_
      exact AW.locals (next g3 _ (by omega) r3) drop7
  refine aw_callSH (y := yL_order) (M2 := mL_order) (as := [vR 1, vI (SC Γ (i + 1)), vI (SC Γ (i + 2)), vR 190]) (S := []) (idx := 201) (d2 := 0 + 14 + 1) (b2 := 1) (b3 := (b - 1)) cwL_order (tb_mem 1120 (by decide +kernel) (by decide +kernel)) stL_order (by decide +kernel) rfl (by decide) (by omega) rfl rfl (by simp [oneSlot]) (Nat.le_of_ble_eq_true rfl) (w_order (d2 := 0 + 14) (Nat.le_refl _) (fun c v g1 ha => ha.1) (p_order (Γ := Γ) (l := l) (d := 0) (p := SC Γ (i + 1)) (k := SC Γ (i + 2)) h (wr_SC _) (wr_SC _)).pa (fun v g1 ha => T 0 v g1 _ ha lo9_out (fun _ => upd2_eq)) (fun c v g1 ha hc9 => T c v g1 g1 ha (fun _ _ _ => rfl) (fun z => absurd z (by omega))))
set_option maxHeartbeats 1000000 in
theorem lc_20 {Γ : Cfg} {l : Launch} {b : Nat} {i : Int} {g : GG} {K : Ou → HP → Prop} (hi : 0 ≤ i ∧ i + 6 ≤ (Γ.2.2.2.2.1 : Int)) (hN : Γ.2.2.2.2.1 ≤ 3072) (h : Rel9 g) (hb : 8 ≤ b) (next : ∀ (g' : GG) (b' : Nat), b - 4 ≤ b' → Rel9 g' → AW Γ l mL_law_ 60 b' 2539 [vR 4000, vR 1, vR 171, vR 190, vI i, vU, vU] [] (stt g') K) : AW Γ l mL_law_ 60 b 1419 [vR 4000, vR 1, vR 171, vR 190, vI i, vU, vU] [] (stt g) K := by
  refine aw_aload_n (k' := 1) (by decide +kernel) rfl ?_
  refine aw_aload_n (k' := 0) (by decide +kernel) rfl ?_
  refine aw_iload (i := 4) (by decide +kernel) rfl ?_
  refine aw_iconst (n := 1) (by decide +kernel) ?_
  refine aw_iadd (by decide +kernel) ?_
  refine aw_sld (x' := i + 1) (by decide +kernel) (wr_id (by omega) (by omega)) (by omega) ?_
  refine aw_aload_n (k' := 0) (by decide +kernel) rfl ?_
  refine aw_iload (i := 4) (by decide +kernel) rfl ?_
  refine aw_iconst (n := 2) (by decide +kernel) ?_
  refine aw_iadd (by decide +kernel) ?_
  refine aw_sld (x' := i + 2) (by decide +kernel) (wr_id (by omega) (by omega)) (by omega) ?_
  refine aw_aload_n (k' := 3) (by decide +kernel) rfl ?_
  have T : ∀ (c v : Int) (g1 g2 : GG), PA [eIO, eIA] (fun g2 K => Ct Γ l (0 + 3) 0 yX12_fence mX12_fence [vR 171, vI (SC Γ (i + 1)), vI (SC Γ (i + 2))] (stt g2) K) c v g1 → lo9 g1 g2 → (c = 0 → g2 190 0 = wr v) → AW Γ l mL_law_ 60 (b - 4) 1436 [vR 4000, vR 1, vR 171, vR 190, vI i, vU, vU] [vI c] (stt g2) K := by
    intro c v g1 g2 ha hlo h190
    refine aw_istore (i := 5) (by decide +kernel) (by decide) ?_
    show AW Γ l mL_law_ 60 (b - 4) 1438 [vR 4000, vR 1, vR 171, vR 190, vI i, vI c, vU] [] (stt g2) K
    refine aw_aload_n (k' := 2) (by decide +kernel) rfl ?_
    refine aw_aload_n (k' := 0) (by decide +kernel) rfl ?_
    refine aw_iload (i := 4) (by decide +kernel) rfl ?_
    refine aw_iconst (n := 1) (by decide +kernel) ?_
    refine aw_iadd (by decide +kernel) ?_
    refine aw_sld (x' := i + 1) (by decide +kernel) (wr_id (by omega) (by omega)) (by omega) ?_
    refine aw_aload_n (k' := 0) (by decide +kernel) rfl ?_
    refine aw_iload (i := 4) (by decide +kernel) rfl ?_
    refine aw_iconst (n := 2) (by decide +kernel) ?_
    refine aw_iadd (by decide +kernel) ?_
    refine aw_sld (x' := i + 2) (by decide +kernel) (wr_id (by omega) (by omega)) (by omega) ?_
    refine aw_callV (y := yX12_fence) (M2 := mX12_fence) (as := [vI (SC Γ (i + 1)), vI (SC Γ (i + 2))]) (S := []) (idx := 206) (t := 171) (d2 := 0 + 3) (b2 := 0) (b3 := (b - 4)) cwX12_fence (tb_mem 1857 (by decide +kernel) (by decide +kernel)) imX12_fence seX12_fence (by decide +kernel) rfl (ci := 10) rfl (OB.at (ci := 10) (show shp 171 = (20, 0) by decide +kernel) (by decide)) (by decide) (Nat.le_of_eq (Nat.zero_add _)) rfl rfl (by simp [oneSlot]) (Nat.le_of_ble_eq_true rfl) (Ct.mono (ha.2 g2 (fun b9 g3 => Rel9 g3 ∧ g3 171 0 = c ∧ (c = 0 → b9 = v) ∧ g3 190 0 = g2 190 0) hlo (fun b9 g3 r z e f => ⟨r, z, e, f 0⟩)) ?_)
    rintro o h' ⟨b9, g3, ⟨rfl, rfl⟩, r3, z3, e3, f3⟩
    show AW Γ l mL_law_ 60 (b - 4) 1454 [vR 4000, vR 1, vR 171, vR 190, vI i, vI c, vU] [vI b9] (stt g3) K
    refine aw_istore (i := 6) (by decide +kernel) (by decide) ?_
    show AW Γ l mL_law_ 60 (b - 4) 1456 [vR 4000, vR 1, vR 171, vR 190, vI i, vI c, vI b9] [] (stt g3) K
    refine aw_aload_n (k' := 2) (by decide +kernel) rfl ?_
    refine aw_callV (y := yX12_thrown) (M2 := mX12_thrown) (as := []) (S := []) (idx := 145) (t := 171) (d2 := 0) (b2 := 0) (b3 := (b - 4)) cwX12_thrown (tb_mem 1322 (by decide +kernel) (by decide +kernel)) imX12_thrown seX12_thrown (by decide +kernel) rfl (ci := 10) rfl (OB.at (ci := 10) (show shp 171 = (20, 0) by decide +kernel) (by decide)) (by decide) (Nat.le_of_eq (Nat.zero_add _)) rfl rfl (by simp [oneSlot]) (Nat.le_of_ble_eq_true rfl) (wpX12_thrown ?_)
    show AW Γ l mL_law_ 60 (b - 4) 1460 [vR 4000, vR 1, vR 171, vR 190, vI i, vI c, vI b9] [vI (g3 171 0)] (stt g3) K
    refine aw_iload (i := 5) (by decide +kernel) rfl ?_
    refine ax_icmp_eq (off := 5) (tgt := 1467) (x' := wr (g3 171 0)) (y' := wr c) (by decide +kernel) (by decide) rfl rfl (fun hc8 => ?_) (fun hc8 => absurd (by rw [z3]) hc8)
    refine aw_iload (i := 5) (by decide +kernel) rfl ?_
    refine ax_if_ne (off := 15) (tgt := 1484) (x' := wr c) (by decide +kernel) (by decide) rfl (fun hc7 => ?_) (fun hc7 => ?_)
    · skip
      refine aw_goto (off := 1055) (tgt := 2539) (by decide +kernel) (by decide) ?_
      exact AW.locals (next g3 _ (by omega) r3) drop7
    · have hcr : 0 ≤ c ∧ c ≤ 2 := ha.1
      have hc0 : c = 0 := by have := wr_id (x := c) (by omega) (by omega); omega
      refine aw_aload_n (k' := 3) (by decide +kernel) rfl ?_
      refine aw_iconst (n := 0) (by decide +kernel) ?_
      refine aw_lald (t := 190) (j := 0) (n := 1) (by decide +kernel) (isA_lit (show shp 190 = (3, 1) by decide +kernel) (by decide)) (by decide +kernel) (by decide +kernel) ?_
      rw [wr_0]
      refine aw_iload (i := 6) (by decide +kernel) rfl ?_
      refine aw_i2l (by decide +kernel) ?_
      refine aw_lcmp (by decide +kernel) ?_
      have e0 : lCmp (g3 190 0) (wr b9) = 0 := by rw [f3, h190 hc0, e3 hc0]; exact lCmp_self _
      rw [e0]
      refine ax_if_eq (off := 5) (tgt := 1484) (x' := 0) (by decide +kernel) (by decide) (by decide +kernel) (fun _ => ?_) (fun hc5 => absurd rfl hc5)
      refine aw_goto (off := 1055) (tgt := 2539) (by decide +kernel) (by decide) ?_
      exact AW.locals (next g3 _ (by omega) r3) drop7
  refine aw_callSH (y := yL_fence) (M2 := mL_fence) (as := [vR 1, vI (SC Γ (i + 1)), vI (SC Γ (i + 2)), vR 190]) (S := []) (idx := 204) (d2 := 0 + 2 + 1) (b2 := 4) (b3 := (b - 4)) cwL_fence (tb_mem 1153 (by decide +kernel) (by decide +kernel)) stL_fence (by decide +kernel) rfl (by decide) (by omega) rfl rfl (by simp [oneSlot]) (Nat.le_of_ble_eq_true rfl) (w_fence (d2 := 0 + 2) (Nat.le_refl _) (fun c v g1 ha => ha.1) (p_fence (Γ := Γ) (l := l) (d := 0) (p := SC Γ (i + 1)) (q := SC Γ (i + 2)) h (wr_SC _) (wr_SC _)).pa (fun v g1 ha => T 0 v g1 _ ha lo9_out (fun _ => upd2_eq)) (fun c v g1 ha hc9 => T c v g1 g1 ha (fun _ _ _ => rfl) (fun z => absurd z (by omega))))
set_option maxHeartbeats 1000000 in
theorem lc_21 {Γ : Cfg} {l : Launch} {b : Nat} {i : Int} {g : GG} {K : Ou → HP → Prop} (hi : 0 ≤ i ∧ i + 6 ≤ (Γ.2.2.2.2.1 : Int)) (hN : Γ.2.2.2.2.1 ≤ 3072) (h : Rel9 g) (hb : 8 ≤ b) (next : ∀ (g' : GG) (b' : Nat), b - 4 ≤ b' → Rel9 g' → AW Γ l mL_law_ 60 b' 2539 [vR 4000, vR 1, vR 171, vR 190, vI i, vU, vU] [] (stt g') K) : AW Γ l mL_law_ 60 b 1487 [vR 4000, vR 1, vR 171, vR 190, vI i, vU, vU] [] (stt g) K := by
  refine aw_aload_n (k' := 1) (by decide +kernel) rfl ?_
  refine aw_aload_n (k' := 0) (by decide +kernel) rfl ?_
  refine aw_iload (i := 4) (by decide +kernel) rfl ?_
  refine aw_iconst (n := 1) (by decide +kernel) ?_
  refine aw_iadd (by decide +kernel) ?_
  refine aw_sld (x' := i + 1) (by decide +kernel) (wr_id (by omega) (by omega)) (by omega) ?_
  refine aw_aload_n (k' := 0) (by decide +kernel) rfl ?_
  refine aw_iload (i := 4) (by decide +kernel) rfl ?_
  refine aw_iconst (n := 2) (by decide +kernel) ?_
  refine aw_iadd (by decide +kernel) ?_
  refine aw_sld (x' := i + 2) (by decide +kernel) (wr_id (by omega) (by omega)) (by omega) ?_
  refine aw_aload_n (k' := 3) (by decide +kernel) rfl ?_
  have T : ∀ (c v : Int) (g1 g2 : GG), PA [eIO, eIA] (fun g2 K => Ct Γ l (0 + 8) 0 yX12_gainsay mX12_gainsay [vR 171, vI (SC Γ (i + 1)), vI (SC Γ (i + 2))] (stt g2) K) c v g1 → lo9 g1 g2 → (c = 0 → g2 190 0 = (if wr v = 0 then 0 else 1)) → AW Γ l mL_law_ 60 (b - 3) 1504 [vR 4000, vR 1, vR 171, vR 190, vI i, vU, vU] [vI c] (stt g2) K := by
    intro c v g1 g2 ha hlo h190
    refine aw_istore (i := 5) (by decide +kernel) (by decide) ?_
    show AW Γ l mL_law_ 60 (b - 3) 1506 [vR 4000, vR 1, vR 171, vR 190, vI i, vI c, vU] [] (stt g2) K
    refine aw_aload_n (k' := 2) (by decide +kernel) rfl ?_
    refine aw_aload_n (k' := 0) (by decide +kernel) rfl ?_
    refine aw_iload (i := 4) (by decide +kernel) rfl ?_
    refine aw_iconst (n := 1) (by decide +kernel) ?_
    refine aw_iadd (by decide +kernel) ?_
    refine aw_sld (x' := i + 1) (by decide +kernel) (wr_id (by omega) (by omega)) (by omega) ?_
    refine aw_aload_n (k' := 0) (by decide +kernel) rfl ?_
    refine aw_iload (i := 4) (by decide +kernel) rfl ?_
    refine aw_iconst (n := 2) (by decide +kernel) ?_
    refine aw_iadd (by decide +kernel) ?_
    refine aw_sld (x' := i + 2) (by decide +kernel) (wr_id (by omega) (by omega)) (by omega) ?_
    refine aw_callV (y := yX12_gainsay) (M2 := mX12_gainsay) (as := [vI (SC Γ (i + 1)), vI (SC Γ (i + 2))]) (S := []) (idx := 209) (t := 171) (d2 := 0 + 8) (b2 := 0) (b3 := (b - 3)) cwX12_gainsay (tb_mem 1861 (by decide +kernel) (by decide +kernel)) imX12_gainsay seX12_gainsay (by decide +kernel) rfl (ci := 10) rfl (OB.at (ci := 10) (show shp 171 = (20, 0) by decide +kernel) (by decide)) (by decide) (Nat.le_of_eq (Nat.zero_add _)) rfl rfl (by simp [oneSlot]) (Nat.le_of_ble_eq_true rfl) (Ct.mono (ha.2 g2 (fun b9 g3 => Rel9 g3 ∧ g3 171 0 = c ∧ (c = 0 → b9 = v) ∧ g3 190 0 = g2 190 0) hlo (fun b9 g3 r z e f => ⟨r, z, e, f 0⟩)) ?_)
    rintro o h' ⟨b9, g3, ⟨rfl, rfl⟩, r3, z3, e3, f3⟩
    show AW Γ l mL_law_ 60 (b - 3) 1522 [vR 4000, vR 1, vR 171, vR 190, vI i, vI c, vU] [vI b9] (stt g3) K
    refine aw_istore (i := 6) (by decide +kernel) (by decide) ?_
    show AW Γ l mL_law_ 60 (b - 3) 1524 [vR 4000, vR 1, vR 171, vR 190, vI i, vI c, vI b9] [] (stt g3) K
    refine aw_aload_n (k' := 2) (by decide +kernel) rfl ?_
    refine aw_callV (y := yX12_thrown) (M2 := mX12_thrown) (as := []) (S := []) (idx := 145) (t := 171) (d2 := 0) (b2 := 0) (b3 := (b - 3)) cwX12_thrown (tb_mem 1322 (by decide +kernel) (by decide +kernel)) imX12_thrown seX12_thrown (by decide +kernel) rfl (ci := 10) rfl (OB.at (ci := 10) (show shp 171 = (20, 0) by decide +kernel) (by decide)) (by decide) (Nat.le_of_eq (Nat.zero_add _)) rfl rfl (by simp [oneSlot]) (Nat.le_of_ble_eq_true rfl) (wpX12_thrown ?_)
    show AW Γ l mL_law_ 60 (b - 3) 1528 [vR 4000, vR 1, vR 171, vR 190, vI i, vI c, vI b9] [vI (g3 171 0)] (stt g3) K
    refine aw_iload (i := 5) (by decide +kernel) rfl ?_
    refine ax_icmp_eq (off := 5) (tgt := 1535) (x' := wr (g3 171 0)) (y' := wr c) (by decide +kernel) (by decide) rfl rfl (fun hc8 => ?_) (fun hc8 => absurd (by rw [z3]) hc8)
    refine aw_iload (i := 5) (by decide +kernel) rfl ?_
    refine ax_if_ne (off := 22) (tgt := 1559) (x' := wr c) (by decide +kernel) (by decide) rfl (fun hc7 => ?_) (fun hc7 => ?_)
    · skip
      refine aw_goto (off := 980) (tgt := 2539) (by decide +kernel) (by decide) ?_
      exact AW.locals (next g3 _ (by omega) r3) drop7
    · have hcr : 0 ≤ c ∧ c ≤ 2 := ha.1
      have hc0 : c = 0 := by have := wr_id (x := c) (by omega) (by omega); omega
      refine aw_aload_n (k' := 3) (by decide +kernel) rfl ?_
      refine aw_iconst (n := 0) (by decide +kernel) ?_
      refine aw_lald (t := 190) (j := 0) (n := 1) (by decide +kernel) (isA_lit (show shp 190 = (3, 1) by decide +kernel) (by decide)) (by decide +kernel) (by decide +kernel) ?_
      rw [wr_0]
      refine aw_iload (i := 6) (by decide +kernel) rfl ?_
      refine ax_if_eq (off := 7) (tgt := 1552) (x' := wr b9) (by decide +kernel) (by decide) rfl (fun hc6 => ?_) (fun hc6 => ?_)
      · skip
        refine aw_lconst (n := 0) (by decide +kernel) ?_
        show AW Γ l mL_law_ 60 (b - 3) 1553 [vR 4000, vR 1, vR 171, vR 190, vI i, vI c, vI b9] [vL 0, vL (g3 190 0)] (stt g3) K
        refine aw_lcmp (by decide +kernel) ?_
        have e0 : lCmp (g3 190 0) (0) = 0 := by rw [f3, h190 hc0, ← e3 hc0, if_pos hc6]; exact lCmp_self _
        rw [e0]
        refine ax_if_eq (off := 5) (tgt := 1559) (x' := 0) (by decide +kernel) (by decide) (by decide +kernel) (fun _ => ?_) (fun hc5 => absurd rfl hc5)
        refine aw_goto (off := 980) (tgt := 2539) (by decide +kernel) (by decide) ?_
        exact AW.locals (next g3 _ (by omega) r3) drop7
      · skip
        refine aw_lconst (n := 1) (by decide +kernel) ?_
        show AW Γ l mL_law_ 60 (b - 3) 1549 [vR 4000, vR 1, vR 171, vR 190, vI i, vI c, vI b9] [vL 1, vL (g3 190 0)] (stt g3) K
        refine aw_goto (off := 4) (tgt := 1553) (by decide +kernel) (by decide) ?_
        refine aw_lcmp (by decide +kernel) ?_
        have e0 : lCmp (g3 190 0) (1) = 0 := by rw [f3, h190 hc0, ← e3 hc0, if_neg hc6]; exact lCmp_self _
        rw [e0]
        refine ax_if_eq (off := 5) (tgt := 1559) (x' := 0) (by decide +kernel) (by decide) (by decide +kernel) (fun _ => ?_) (fun hc5 => absurd rfl hc5)
        refine aw_goto (off := 980) (tgt := 2539) (by decide +kernel) (by decide) ?_
        exact AW.locals (next g3 _ (by omega) r3) drop7
  refine aw_callSH (y := yL_gainsay) (M2 := mL_gainsay) (as := [vR 1, vI (SC Γ (i + 1)), vI (SC Γ (i + 2)), vR 190]) (S := []) (idx := 207) (d2 := 0 + 6 + 1) (b2 := 3) (b3 := (b - 3)) cwL_gainsay (tb_mem 1164 (by decide +kernel) (by decide +kernel)) stL_gainsay (by decide +kernel) rfl (by decide) (by omega) rfl rfl (by simp [oneSlot]) (Nat.le_of_ble_eq_true rfl) (w_gainsay (d2 := 0 + 6) (Nat.le_refl _) (fun c v g1 ha => ha.1) (p_gainsay (Γ := Γ) (l := l) (d := 0) (p := SC Γ (i + 1)) (q := SC Γ (i + 2)) h (wr_SC _) (wr_SC _)).pa (fun v g1 ha => T 0 v g1 _ ha lo9_out (fun _ => upd2_eq)) (fun c v g1 ha hc9 => T c v g1 g1 ha (fun _ _ _ => rfl) (fun z => absurd z (by omega))))
