/-! THE LAW'S CASES, walked (genL.py), part 4 -/
set_option maxHeartbeats 1000000 in
theorem lc_33 {Γ : Cfg} {l : Launch} {b : Nat} {i : Int} {g : GG} {K : Ou → HP → Prop} (hi : 0 ≤ i ∧ i + 6 ≤ (Γ.2.2.2.2.1 : Int)) (hN : Γ.2.2.2.2.1 ≤ 3072) (h : Rel9 g) (hb : 8 ≤ b) (next : ∀ (g' : GG) (b' : Nat), b - 4 ≤ b' → Rel9 g' → AW Γ l mL_law_ 60 b' 2539 [vR 4000, vR 1, vR 171, vR 190, vI i, vU, vU] [] (stt g') K) : AW Γ l mL_law_ 60 b 2063 [vR 4000, vR 1, vR 171, vR 190, vI i, vU, vU] [] (stt g) K := by
  refine aw_aload_n (k' := 1) (by decide +kernel) rfl ?_
  refine aw_aload_n (k' := 0) (by decide +kernel) rfl ?_
  refine aw_iload (i := 4) (by decide +kernel) rfl ?_
  refine aw_iconst (n := 1) (by decide +kernel) ?_
  refine aw_iadd (by decide +kernel) ?_
  refine aw_sld (x' := i + 1) (by decide +kernel) (wr_id (by omega) (by omega)) (by omega) ?_
  refine aw_aload_n (k' := 3) (by decide +kernel) rfl ?_
  have T : ∀ (c v : Int) (g1 g2 : GG), PA [eNS] (fun g2 K => Ct Γ l (0 + 3) 0 yX12_which mX12_which [vR 171, vI (SC Γ (i + 1))] (stt g2) K) c v g1 → lo9 g1 g2 → (c = 0 → g2 190 0 = wr v) → AW Γ l mL_law_ 60 (b - 1) 2074 [vR 4000, vR 1, vR 171, vR 190, vI i, vU, vU] [vI c] (stt g2) K := by
    intro c v g1 g2 ha hlo h190
    refine aw_istore (i := 5) (by decide +kernel) (by decide) ?_
    show AW Γ l mL_law_ 60 (b - 1) 2076 [vR 4000, vR 1, vR 171, vR 190, vI i, vI c, vU] [] (stt g2) K
    refine aw_aload_n (k' := 2) (by decide +kernel) rfl ?_
    refine aw_aload_n (k' := 0) (by decide +kernel) rfl ?_
    refine aw_iload (i := 4) (by decide +kernel) rfl ?_
    refine aw_iconst (n := 1) (by decide +kernel) ?_
    refine aw_iadd (by decide +kernel) ?_
    refine aw_sld (x' := i + 1) (by decide +kernel) (wr_id (by omega) (by omega)) (by omega) ?_
    refine aw_callV (y := yX12_which) (M2 := mX12_which) (as := [vI (SC Γ (i + 1))]) (S := []) (idx := 247) (t := 171) (d2 := 0 + 3) (b2 := 0) (b3 := (b - 1)) cwX12_which (tb_mem 1979 (by decide +kernel) (by decide +kernel)) imX12_which seX12_which (by decide +kernel) rfl (ci := 10) rfl (OB.at (ci := 10) (show shp 171 = (20, 0) by decide +kernel) (by decide)) (by decide) (Nat.le_of_eq (Nat.zero_add _)) rfl rfl (by simp [oneSlot]) (Nat.le_of_ble_eq_true rfl) (Ct.mono (ha.2 g2 (fun b9 g3 => Rel9 g3 ∧ g3 171 0 = c ∧ (c = 0 → b9 = v) ∧ g3 190 0 = g2 190 0) hlo (fun b9 g3 r z e f => ⟨r, z, e, f 0⟩)) ?_)
    rintro o h' ⟨b9, g3, ⟨rfl, rfl⟩, r3, z3, e3, f3⟩
    show AW Γ l mL_law_ 60 (b - 1) 2086 [vR 4000, vR 1, vR 171, vR 190, vI i, vI c, vU] [vI b9] (stt g3) K
    refine aw_istore (i := 6) (by decide +kernel) (by decide) ?_
    show AW Γ l mL_law_ 60 (b - 1) 2088 [vR 4000, vR 1, vR 171, vR 190, vI i, vI c, vI b9] [] (stt g3) K
    refine aw_aload_n (k' := 2) (by decide +kernel) rfl ?_
    refine aw_callV (y := yX12_thrown) (M2 := mX12_thrown) (as := []) (S := []) (idx := 145) (t := 171) (d2 := 0) (b2 := 0) (b3 := (b - 1)) cwX12_thrown (tb_mem 1322 (by decide +kernel) (by decide +kernel)) imX12_thrown seX12_thrown (by decide +kernel) rfl (ci := 10) rfl (OB.at (ci := 10) (show shp 171 = (20, 0) by decide +kernel) (by decide)) (by decide) (Nat.le_of_eq (Nat.zero_add _)) rfl rfl (by simp [oneSlot]) (Nat.le_of_ble_eq_true rfl) (wpX12_thrown ?_)
    show AW Γ l mL_law_ 60 (b - 1) 2092 [vR 4000, vR 1, vR 171, vR 190, vI i, vI c, vI b9] [vI (g3 171 0)] (stt g3) K
    refine aw_iload (i := 5) (by decide +kernel) rfl ?_
    refine ax_icmp_eq (off := 5) (tgt := 2099) (x' := wr (g3 171 0)) (y' := wr c) (by decide +kernel) (by decide) rfl rfl (fun hc8 => ?_) (fun hc8 => absurd (by rw [z3]) hc8)
    refine aw_iload (i := 5) (by decide +kernel) rfl ?_
    refine ax_if_ne (off := 15) (tgt := 2116) (x' := wr c) (by decide +kernel) (by decide) rfl (fun hc7 => ?_) (fun hc7 => ?_)
    · skip
      refine aw_goto (off := 423) (tgt := 2539) (by decide +kernel) (by decide) ?_
      exact AW.locals (next g3 _ (by omega) r3) drop7
    · have hcr : 0 ≤ c ∧ c ≤ 1 := ha.1
      have hc0 : c = 0 := by have := wr_id (x := c) (by omega) (by omega); omega
      refine aw_aload_n (k' := 3) (by decide +kernel) rfl ?_
      refine aw_iconst (n := 0) (by decide +kernel) ?_
      refine aw_lald (t := 190) (j := 0) (n := 1) (by decide +kernel) (isA_lit (show shp 190 = (3, 1) by decide +kernel) (by decide)) (by decide +kernel) (by decide +kernel) ?_
      rw [wr_0]
      refine aw_iload (i := 6) (by decide +kernel) rfl ?_
      refine aw_i2l (by decide +kernel) ?_
      refine aw_lcmp (by decide +kernel) ?_
      have e0 : lCmp (g3 190 0) (wr b9) = 0 := by rw [f3, h190 hc0, e3 hc0]; exact lCmp_self _
      rw [e0]
      refine ax_if_eq (off := 5) (tgt := 2116) (x' := 0) (by decide +kernel) (by decide) (by decide +kernel) (fun _ => ?_) (fun hc5 => absurd rfl hc5)
      refine aw_goto (off := 423) (tgt := 2539) (by decide +kernel) (by decide) ?_
      exact AW.locals (next g3 _ (by omega) r3) drop7
  refine aw_callSH (y := yL_which) (M2 := mL_which) (as := [vR 1, vI (SC Γ (i + 1)), vR 190]) (S := []) (idx := 245) (d2 := 0 + 2 + 1) (b2 := 1) (b3 := (b - 1)) cwL_which (tb_mem 1285 (by decide +kernel) (by decide +kernel)) stL_which (by decide +kernel) rfl (by decide) (by omega) rfl rfl (by simp [oneSlot]) (Nat.le_of_ble_eq_true rfl) (w_which (d2 := 0 + 2) (Nat.le_refl _) (fun c v g1 ha => ha.1) (p_which (Γ := Γ) (l := l) (d := 0) (w := SC Γ (i + 1)) h (wr_SC _)).pa (fun v g1 ha => T 0 v g1 _ ha lo9_out (fun _ => upd2_eq)) (fun c v g1 ha hc9 => T c v g1 g1 ha (fun _ _ _ => rfl) (fun z => absurd z (by omega))))
set_option maxHeartbeats 1000000 in
theorem lc_34 {Γ : Cfg} {l : Launch} {b : Nat} {i : Int} {g : GG} {K : Ou → HP → Prop} (hi : 0 ≤ i ∧ i + 6 ≤ (Γ.2.2.2.2.1 : Int)) (hN : Γ.2.2.2.2.1 ≤ 3072) (h : Rel9 g) (hb : 8 ≤ b) (next : ∀ (g' : GG) (b' : Nat), b - 4 ≤ b' → Rel9 g' → AW Γ l mL_law_ 60 b' 2539 [vR 4000, vR 1, vR 171, vR 190, vI i, vU, vU] [] (stt g') K) : AW Γ l mL_law_ 60 b 2119 [vR 4000, vR 1, vR 171, vR 190, vI i, vU, vU] [] (stt g) K := by
  refine aw_aload_n (k' := 1) (by decide +kernel) rfl ?_
  refine aw_callV (y := yX11_twins) (M2 := mX11_twins) (as := []) (S := []) (idx := 248) (t := 1) (d2 := 0 + 3) (b2 := 0) (b3 := b) cwX11_twins (tb_mem 510 (by decide +kernel) (by decide +kernel)) imX11_twins seX11_twins (by decide +kernel) rfl (ci := 9) rfl (OB.at (ci := 9) (show shp 1 = (19, 0) by decide +kernel) (by decide)) (by decide) (Nat.le_of_eq (Nat.zero_add _)) rfl rfl (by simp [oneSlot]) (Nat.le_of_ble_eq_true rfl) (Ct.mono (p_twins (Γ := Γ) (l := l) (d := 0)  h ).pa ?_)
  rintro o h' ⟨v, g1, ⟨rfl, rfl⟩, ha⟩
  show AW Γ l mL_law_ 60 b 2123 [vR 4000, vR 1, vR 171, vR 190, vI i, vU, vU] [vI v] (stt g1) K
  refine aw_aload_n (k' := 2) (by decide +kernel) rfl ?_
  refine aw_callV (y := yX12_twins) (M2 := mX12_twins) (as := []) (S := [vI v]) (idx := 251) (t := 171) (d2 := 0 + 4) (b2 := 0) (b3 := b) cwX12_twins (tb_mem 1983 (by decide +kernel) (by decide +kernel)) imX12_twins seX12_twins (by decide +kernel) rfl (ci := 10) rfl (OB.at (ci := 10) (show shp 171 = (20, 0) by decide +kernel) (by decide)) (by decide) (Nat.le_of_eq (Nat.zero_add _)) rfl rfl (by simp [oneSlot]) (Nat.le_of_ble_eq_true rfl) (Ct.mono (ha g1 (fun b9 g3 => b9 = v ∧ Rel9 g3) (fun _ _ _ => rfl) (fun g3 r f => ⟨rfl, r⟩)) ?_)
  rintro o h' ⟨b9, g3, ⟨rfl, rfl⟩, e9, r3⟩
  show AW Γ l mL_law_ 60 b 2127 [vR 4000, vR 1, vR 171, vR 190, vI i, vU, vU] [vI b9, vI v] (stt g3) K
  rw [e9]
  refine ax_icmp_eq (off := 412) (tgt := 2539) (x' := wr v) (y' := wr v) (by decide +kernel) (by decide) rfl rfl (fun hc8 => ?_) (fun hc8 => absurd rfl hc8)
  exact next g3 _ (by omega) r3
set_option maxHeartbeats 1000000 in
theorem lc_35 {Γ : Cfg} {l : Launch} {b : Nat} {i : Int} {g : GG} {K : Ou → HP → Prop} (hi : 0 ≤ i ∧ i + 6 ≤ (Γ.2.2.2.2.1 : Int)) (hN : Γ.2.2.2.2.1 ≤ 3072) (h : Rel9 g) (hb : 8 ≤ b) (next : ∀ (g' : GG) (b' : Nat), b - 4 ≤ b' → Rel9 g' → AW Γ l mL_law_ 60 b' 2539 [vR 4000, vR 1, vR 171, vR 190, vI i, vU, vU] [] (stt g') K) : AW Γ l mL_law_ 60 b 2132 [vR 4000, vR 1, vR 171, vR 190, vI i, vU, vU] [] (stt g) K := by
  refine aw_aload_n (k' := 1) (by decide +kernel) rfl ?_
  refine aw_aload_n (k' := 0) (by decide +kernel) rfl ?_
  refine aw_iload (i := 4) (by decide +kernel) rfl ?_
  refine aw_iconst (n := 1) (by decide +kernel) ?_
  refine aw_iadd (by decide +kernel) ?_
  refine aw_sld (x' := i + 1) (by decide +kernel) (wr_id (by omega) (by omega)) (by omega) ?_
  refine aw_aload_n (k' := 0) (by decide +kernel) rfl ?_
  refine aw_iload (i := 4) (by decide +kernel) rfl ?_
  refine aw_iconst (n := 2) (by decide +kernel) ?_
  refine aw_iadd (by decide +kernel) ?_
  refine aw_sld (x' := i + 2) (by decide +kernel) (wr_id (by omega) (by omega)) (by omega) ?_
  refine ax_if_eq (off := 7) (tgt := 2152) (x' := SC Γ (i + 2)) (by decide +kernel) (by decide) (wr_SC _) (fun hc => ?_) (fun hc => ?_)
  · skip
    refine aw_iconst (n := 0) (by decide +kernel) ?_
    refine aw_aload_n (k' := 3) (by decide +kernel) rfl ?_
    have T : ∀ (c v : Int) (g1 g2 : GG), PA [eIA] (fun g2 K => Ct Γ l (0 + 13) 0 yX12_trial mX12_trial [vR 171, vI (SC Γ (i + 1)), vI 0] (stt g2) K) c v g1 → lo9 g1 g2 → (c = 0 → g2 190 0 = wr v) → AW Γ l mL_law_ 60 (b - 1) 2157 [vR 4000, vR 1, vR 171, vR 190, vI i, vU, vU] [vI c] (stt g2) K := by
      intro c v g1 g2 ha hlo h190
      refine aw_istore (i := 5) (by decide +kernel) (by decide) ?_
      show AW Γ l mL_law_ 60 (b - 1) 2159 [vR 4000, vR 1, vR 171, vR 190, vI i, vI c, vU] [] (stt g2) K
      refine aw_aload_n (k' := 2) (by decide +kernel) rfl ?_
      refine aw_aload_n (k' := 0) (by decide +kernel) rfl ?_
      refine aw_iload (i := 4) (by decide +kernel) rfl ?_
      refine aw_iconst (n := 1) (by decide +kernel) ?_
      refine aw_iadd (by decide +kernel) ?_
      refine aw_sld (x' := i + 1) (by decide +kernel) (wr_id (by omega) (by omega)) (by omega) ?_
      refine aw_aload_n (k' := 0) (by decide +kernel) rfl ?_
      refine aw_iload (i := 4) (by decide +kernel) rfl ?_
      refine aw_iconst (n := 2) (by decide +kernel) ?_
      refine aw_iadd (by decide +kernel) ?_
      refine aw_sld (x' := i + 2) (by decide +kernel) (wr_id (by omega) (by omega)) (by omega) ?_
      refine ax_if_eq (off := 7) (tgt := 2179) (x' := SC Γ (i + 2)) (by decide +kernel) (by decide) (wr_SC _) (fun _ => ?_) (fun hc9 => absurd hc hc9)
      refine aw_iconst (n := 0) (by decide +kernel) ?_
      refine aw_callV (y := yX12_trial) (M2 := mX12_trial) (as := [vI (SC Γ (i + 1)), vI 0]) (S := []) (idx := 255) (t := 171) (d2 := 0 + 13) (b2 := 0) (b3 := (b - 1)) cwX12_trial (tb_mem 1987 (by decide +kernel) (by decide +kernel)) imX12_trial seX12_trial (by decide +kernel) rfl (ci := 10) rfl (OB.at (ci := 10) (show shp 171 = (20, 0) by decide +kernel) (by decide)) (by decide) (Nat.le_of_eq (Nat.zero_add _)) rfl rfl (by simp [oneSlot]) (Nat.le_of_ble_eq_true rfl) (Ct.mono (ha.2 g2 (fun b9 g3 => Rel9 g3 ∧ g3 171 0 = c ∧ (c = 0 → b9 = v) ∧ g3 190 0 = g2 190 0) hlo (fun b9 g3 r z e f => ⟨r, z, e, f 0⟩)) ?_)
      rintro o h' ⟨b9, g3, ⟨rfl, rfl⟩, r3, z3, e3, f3⟩
      show AW Γ l mL_law_ 60 (b - 1) 2183 [vR 4000, vR 1, vR 171, vR 190, vI i, vI c, vU] [vI b9] (stt g3) K
      refine aw_istore (i := 6) (by decide +kernel) (by decide) ?_
      show AW Γ l mL_law_ 60 (b - 1) 2185 [vR 4000, vR 1, vR 171, vR 190, vI i, vI c, vI b9] [] (stt g3) K
      refine aw_aload_n (k' := 2) (by decide +kernel) rfl ?_
      refine aw_callV (y := yX12_thrown) (M2 := mX12_thrown) (as := []) (S := []) (idx := 145) (t := 171) (d2 := 0) (b2 := 0) (b3 := (b - 1)) cwX12_thrown (tb_mem 1322 (by decide +kernel) (by decide +kernel)) imX12_thrown seX12_thrown (by decide +kernel) rfl (ci := 10) rfl (OB.at (ci := 10) (show shp 171 = (20, 0) by decide +kernel) (by decide)) (by decide) (Nat.le_of_eq (Nat.zero_add _)) rfl rfl (by simp [oneSlot]) (Nat.le_of_ble_eq_true rfl) (wpX12_thrown ?_)
      show AW Γ l mL_law_ 60 (b - 1) 2189 [vR 4000, vR 1, vR 171, vR 190, vI i, vI c, vI b9] [vI (g3 171 0)] (stt g3) K
      refine aw_iload (i := 5) (by decide +kernel) rfl ?_
      refine ax_icmp_eq (off := 5) (tgt := 2196) (x' := wr (g3 171 0)) (y' := wr c) (by decide +kernel) (by decide) rfl rfl (fun hc8 => ?_) (fun hc8 => absurd (by rw [z3]) hc8)
      refine aw_iload (i := 5) (by decide +kernel) rfl ?_
      refine ax_if_ne (off := 15) (tgt := 2213) (x' := wr c) (by decide +kernel) (by decide) rfl (fun hc7 => ?_) (fun hc7 => ?_)
      · skip
        refine aw_goto (off := 326) (tgt := 2539) (by decide +kernel) (by decide) ?_
        exact AW.locals (next g3 _ (by omega) r3) drop7
      · have hcr : 0 ≤ c ∧ c ≤ 1 := ha.1
        have hc0 : c = 0 := by have := wr_id (x := c) (by omega) (by omega); omega
        refine aw_aload_n (k' := 3) (by decide +kernel) rfl ?_
        refine aw_iconst (n := 0) (by decide +kernel) ?_
        refine aw_lald (t := 190) (j := 0) (n := 1) (by decide +kernel) (isA_lit (show shp 190 = (3, 1) by decide +kernel) (by decide)) (by decide +kernel) (by decide +kernel) ?_
        rw [wr_0]
        refine aw_iload (i := 6) (by decide +kernel) rfl ?_
        refine aw_i2l (by decide +kernel) ?_
        refine aw_lcmp (by decide +kernel) ?_
        have e0 : lCmp (g3 190 0) (wr b9) = 0 := by rw [f3, h190 hc0, e3 hc0]; exact lCmp_self _
        rw [e0]
        refine ax_if_eq (off := 5) (tgt := 2213) (x' := 0) (by decide +kernel) (by decide) (by decide +kernel) (fun _ => ?_) (fun hc5 => absurd rfl hc5)
        refine aw_goto (off := 326) (tgt := 2539) (by decide +kernel) (by decide) ?_
        exact AW.locals (next g3 _ (by omega) r3) drop7
    refine aw_callSH (y := yL_trial) (M2 := mL_trial) (as := [vR 1, vI (SC Γ (i + 1)), vI 0, vR 190]) (S := []) (idx := 252) (d2 := 0 + 7 + 1) (b2 := 1) (b3 := (b - 1)) cwL_trial (tb_mem 1293 (by decide +kernel) (by decide +kernel)) stL_trial (by decide +kernel) rfl (by decide) (by omega) rfl rfl (by simp [oneSlot]) (Nat.le_of_ble_eq_true rfl) (w_trial (d2 := 0 + 7) (Nat.le_refl _) (fun c v g1 ha => ha.1) (p_trial (Γ := Γ) (l := l) (d := 0) (n := SC Γ (i + 1)) (e := 0) h (wr_SC _) (by decide +kernel)).pa (fun v g1 ha => T 0 v g1 _ ha lo9_out (fun _ => upd2_eq)) (fun c v g1 ha hc9 => T c v g1 g1 ha (fun _ _ _ => rfl) (fun z => absurd z (by omega))))
  · skip
    refine aw_iconst (n := 1) (by decide +kernel) ?_
    refine aw_goto (off := 4) (tgt := 2153) (by decide +kernel) (by decide) ?_
    refine aw_aload_n (k' := 3) (by decide +kernel) rfl ?_
    have T : ∀ (c v : Int) (g1 g2 : GG), PA [eIA] (fun g2 K => Ct Γ l (0 + 13) 0 yX12_trial mX12_trial [vR 171, vI (SC Γ (i + 1)), vI 1] (stt g2) K) c v g1 → lo9 g1 g2 → (c = 0 → g2 190 0 = wr v) → AW Γ l mL_law_ 60 (b - 1) 2157 [vR 4000, vR 1, vR 171, vR 190, vI i, vU, vU] [vI c] (stt g2) K := by
      intro c v g1 g2 ha hlo h190
      refine aw_istore (i := 5) (by decide +kernel) (by decide) ?_
      show AW Γ l mL_law_ 60 (b - 1) 2159 [vR 4000, vR 1, vR 171, vR 190, vI i, vI c, vU] [] (stt g2) K
      refine aw_aload_n (k' := 2) (by decide +kernel) rfl ?_
      refine aw_aload_n (k' := 0) (by decide +kernel) rfl ?_
      refine aw_iload (i := 4) (by decide +kernel) rfl ?_
      refine aw_iconst (n := 1) (by decide +kernel) ?_
      refine aw_iadd (by decide +kernel) ?_
      refine aw_sld (x' := i + 1) (by decide +kernel) (wr_id (by omega) (by omega)) (by omega) ?_
      refine aw_aload_n (k' := 0) (by decide +kernel) rfl ?_
      refine aw_iload (i := 4) (by decide +kernel) rfl ?_
      refine aw_iconst (n := 2) (by decide +kernel) ?_
      refine aw_iadd (by decide +kernel) ?_
      refine aw_sld (x' := i + 2) (by decide +kernel) (wr_id (by omega) (by omega)) (by omega) ?_
      refine ax_if_eq (off := 7) (tgt := 2179) (x' := SC Γ (i + 2)) (by decide +kernel) (by decide) (wr_SC _) (fun hc9 => absurd hc9 hc) (fun _ => ?_)
      refine aw_iconst (n := 1) (by decide +kernel) ?_
      refine aw_goto (off := 4) (tgt := 2180) (by decide +kernel) (by decide) ?_
      refine aw_callV (y := yX12_trial) (M2 := mX12_trial) (as := [vI (SC Γ (i + 1)), vI 1]) (S := []) (idx := 255) (t := 171) (d2 := 0 + 13) (b2 := 0) (b3 := (b - 1)) cwX12_trial (tb_mem 1987 (by decide +kernel) (by decide +kernel)) imX12_trial seX12_trial (by decide +kernel) rfl (ci := 10) rfl (OB.at (ci := 10) (show shp 171 = (20, 0) by decide +kernel) (by decide)) (by decide) (Nat.le_of_eq (Nat.zero_add _)) rfl rfl (by simp [oneSlot]) (Nat.le_of_ble_eq_true rfl) (Ct.mono (ha.2 g2 (fun b9 g3 => Rel9 g3 ∧ g3 171 0 = c ∧ (c = 0 → b9 = v) ∧ g3 190 0 = g2 190 0) hlo (fun b9 g3 r z e f => ⟨r, z, e, f 0⟩)) ?_)
      rintro o h' ⟨b9, g3, ⟨rfl, rfl⟩, r3, z3, e3, f3⟩
      show AW Γ l mL_law_ 60 (b - 1) 2183 [vR 4000, vR 1, vR 171, vR 190, vI i, vI c, vU] [vI b9] (stt g3) K
      refine aw_istore (i := 6) (by decide +kernel) (by decide) ?_
      show AW Γ l mL_law_ 60 (b - 1) 2185 [vR 4000, vR 1, vR 171, vR 190, vI i, vI c, vI b9] [] (stt g3) K
      refine aw_aload_n (k' := 2) (by decide +kernel) rfl ?_
      refine aw_callV (y := yX12_thrown) (M2 := mX12_thrown) (as := []) (S := []) (idx := 145) (t := 171) (d2 := 0) (b2 := 0) (b3 := (b - 1)) cwX12_thrown (tb_mem 1322 (by decide +kernel) (by decide +kernel)) imX12_thrown seX12_thrown (by decide +kernel) rfl (ci := 10) rfl (OB.at (ci := 10) (show shp 171 = (20, 0) by decide +kernel) (by decide)) (by decide) (Nat.le_of_eq (Nat.zero_add _)) rfl rfl (by simp [oneSlot]) (Nat.le_of_ble_eq_true rfl) (wpX12_thrown ?_)
      show AW Γ l mL_law_ 60 (b - 1) 2189 [vR 4000, vR 1, vR 171, vR 190, vI i, vI c, vI b9] [vI (g3 171 0)] (stt g3) K
      refine aw_iload (i := 5) (by decide +kernel) rfl ?_
      refine ax_icmp_eq (off := 5) (tgt := 2196) (x' := wr (g3 171 0)) (y' := wr c) (by decide +kernel) (by decide) rfl rfl (fun hc8 => ?_) (fun hc8 => absurd (by rw [z3]) hc8)
      refine aw_iload (i := 5) (by decide +kernel) rfl ?_
      refine ax_if_ne (off := 15) (tgt := 2213) (x' := wr c) (by decide +kernel) (by decide) rfl (fun hc7 => ?_) (fun hc7 => ?_)
      · skip
        refine aw_goto (off := 326) (tgt := 2539) (by decide +kernel) (by decide) ?_
        exact AW.locals (next g3 _ (by omega) r3) drop7
      · have hcr : 0 ≤ c ∧ c ≤ 1 := ha.1
        have hc0 : c = 0 := by have := wr_id (x := c) (by omega) (by omega); omega
        refine aw_aload_n (k' := 3) (by decide +kernel) rfl ?_
        refine aw_iconst (n := 0) (by decide +kernel) ?_
        refine aw_lald (t := 190) (j := 0) (n := 1) (by decide +kernel) (isA_lit (show shp 190 = (3, 1) by decide +kernel) (by decide)) (by decide +kernel) (by decide +kernel) ?_
        rw [wr_0]
        refine aw_iload (i := 6) (by decide +kernel) rfl ?_
        refine aw_i2l (by decide +kernel) ?_
        refine aw_lcmp (by decide +kernel) ?_
        have e0 : lCmp (g3 190 0) (wr b9) = 0 := by rw [f3, h190 hc0, e3 hc0]; exact lCmp_self _
        rw [e0]
        refine ax_if_eq (off := 5) (tgt := 2213) (x' := 0) (by decide +kernel) (by decide) (by decide +kernel) (fun _ => ?_) (fun hc5 => absurd rfl hc5)
        refine aw_goto (off := 326) (tgt := 2539) (by decide +kernel) (by decide) ?_
        exact AW.locals (next g3 _ (by omega) r3) drop7
    refine aw_callSH (y := yL_trial) (M2 := mL_trial) (as := [vR 1, vI (SC Γ (i + 1)), vI 1, vR 190]) (S := []) (idx := 252) (d2 := 0 + 7 + 1) (b2 := 1) (b3 := (b - 1)) cwL_trial (tb_mem 1293 (by decide +kernel) (by decide +kernel)) stL_trial (by decide +kernel) rfl (by decide) (by omega) rfl rfl (by simp [oneSlot]) (Nat.le_of_ble_eq_true rfl) (w_trial (d2 := 0 + 7) (Nat.le_refl _) (fun c v g1 ha => ha.1) (p_trial (Γ := Γ) (l := l) (d := 0) (n := SC Γ (i + 1)) (e := 1) h (wr_SC _) (by decide +kernel)).pa (fun v g1 ha => T 0 v g1 _ ha lo9_out (fun _ => upd2_eq)) (fun c v g1 ha hc9 => T c v g1 g1 ha (fun _ _ _ => rfl) (fun z => absurd z (by omega))))
set_option maxHeartbeats 1000000 in
theorem lc_36 {Γ : Cfg} {l : Launch} {b : Nat} {i : Int} {g : GG} {K : Ou → HP → Prop} (hi : 0 ≤ i ∧ i + 6 ≤ (Γ.2.2.2.2.1 : Int)) (hN : Γ.2.2.2.2.1 ≤ 3072) (h : Rel9 g) (hb : 8 ≤ b) (next : ∀ (g' : GG) (b' : Nat), b - 4 ≤ b' → Rel9 g' → AW Γ l mL_law_ 60 b' 2539 [vR 4000, vR 1, vR 171, vR 190, vI i, vU, vU] [] (stt g') K) : AW Γ l mL_law_ 60 b 2216 [vR 4000, vR 1, vR 171, vR 190, vI i, vU, vU] [] (stt g) K := by
  refine aw_aload_n (k' := 1) (by decide +kernel) rfl ?_
  refine aw_aload_n (k' := 0) (by decide +kernel) rfl ?_
  refine aw_iload (i := 4) (by decide +kernel) rfl ?_
  refine aw_iconst (n := 1) (by decide +kernel) ?_
  refine aw_iadd (by decide +kernel) ?_
  refine aw_sld (x' := i + 1) (by decide +kernel) (wr_id (by omega) (by omega)) (by omega) ?_
  refine aw_aload_n (k' := 0) (by decide +kernel) rfl ?_
  refine aw_iload (i := 4) (by decide +kernel) rfl ?_
  refine aw_iconst (n := 2) (by decide +kernel) ?_
  refine aw_iadd (by decide +kernel) ?_
  refine aw_sld (x' := i + 2) (by decide +kernel) (wr_id (by omega) (by omega)) (by omega) ?_
  refine ax_if_eq (off := 7) (tgt := 2236) (x' := SC Γ (i + 2)) (by decide +kernel) (by decide) (wr_SC _) (fun hc => ?_) (fun hc => ?_)
  · skip
    refine aw_iconst (n := 0) (by decide +kernel) ?_
    refine aw_aload_n (k' := 3) (by decide +kernel) rfl ?_
    have T : ∀ (c v : Int) (g1 g2 : GG), PA [eIA] (fun g2 K => Ct Γ l (0 + 13) 0 yX12_span mX12_span [vR 171, vI (SC Γ (i + 1)), vI 0] (stt g2) K) c v g1 → lo9 g1 g2 → (c = 0 → g2 190 0 = wr v) → AW Γ l mL_law_ 60 (b - 2) 2241 [vR 4000, vR 1, vR 171, vR 190, vI i, vU, vU] [vI c] (stt g2) K := by
      intro c v g1 g2 ha hlo h190
      refine aw_istore (i := 5) (by decide +kernel) (by decide) ?_
      show AW Γ l mL_law_ 60 (b - 2) 2243 [vR 4000, vR 1, vR 171, vR 190, vI i, vI c, vU] [] (stt g2) K
      refine aw_aload_n (k' := 2) (by decide +kernel) rfl ?_
      refine aw_aload_n (k' := 0) (by decide +kernel) rfl ?_
      refine aw_iload (i := 4) (by decide +kernel) rfl ?_
      refine aw_iconst (n := 1) (by decide +kernel) ?_
      refine aw_iadd (by decide +kernel) ?_
      refine aw_sld (x' := i + 1) (by decide +kernel) (wr_id (by omega) (by omega)) (by omega) ?_
      refine aw_aload_n (k' := 0) (by decide +kernel) rfl ?_
      refine aw_iload (i := 4) (by decide +kernel) rfl ?_
      refine aw_iconst (n := 2) (by decide +kernel) ?_
      refine aw_iadd (by decide +kernel) ?_
      refine aw_sld (x' := i + 2) (by decide +kernel) (wr_id (by omega) (by omega)) (by omega) ?_
      refine ax_if_eq (off := 7) (tgt := 2263) (x' := SC Γ (i + 2)) (by decide +kernel) (by decide) (wr_SC _) (fun _ => ?_) (fun hc9 => absurd hc hc9)
      refine aw_iconst (n := 0) (by decide +kernel) ?_
      refine aw_callV (y := yX12_span) (M2 := mX12_span) (as := [vI (SC Γ (i + 1)), vI 0]) (S := []) (idx := 258) (t := 171) (d2 := 0 + 13) (b2 := 0) (b3 := (b - 2)) cwX12_span (tb_mem 2002 (by decide +kernel) (by decide +kernel)) imX12_span seX12_span (by decide +kernel) rfl (ci := 10) rfl (OB.at (ci := 10) (show shp 171 = (20, 0) by decide +kernel) (by decide)) (by decide) (Nat.le_of_eq (Nat.zero_add _)) rfl rfl (by simp [oneSlot]) (Nat.le_of_ble_eq_true rfl) (Ct.mono (ha.2 g2 (fun b9 g3 => Rel9 g3 ∧ g3 171 0 = c ∧ (c = 0 → b9 = v) ∧ g3 190 0 = g2 190 0) hlo (fun b9 g3 r z e f => ⟨r, z, e, f 0⟩)) ?_)
      rintro o h' ⟨b9, g3, ⟨rfl, rfl⟩, r3, z3, e3, f3⟩
      show AW Γ l mL_law_ 60 (b - 2) 2267 [vR 4000, vR 1, vR 171, vR 190, vI i, vI c, vU] [vI b9] (stt g3) K
      refine aw_istore (i := 6) (by decide +kernel) (by decide) ?_
      show AW Γ l mL_law_ 60 (b - 2) 2269 [vR 4000, vR 1, vR 171, vR 190, vI i, vI c, vI b9] [] (stt g3) K
      refine aw_aload_n (k' := 2) (by decide +kernel) rfl ?_
      refine aw_callV (y := yX12_thrown) (M2 := mX12_thrown) (as := []) (S := []) (idx := 145) (t := 171) (d2 := 0) (b2 := 0) (b3 := (b - 2)) cwX12_thrown (tb_mem 1322 (by decide +kernel) (by decide +kernel)) imX12_thrown seX12_thrown (by decide +kernel) rfl (ci := 10) rfl (OB.at (ci := 10) (show shp 171 = (20, 0) by decide +kernel) (by decide)) (by decide) (Nat.le_of_eq (Nat.zero_add _)) rfl rfl (by simp [oneSlot]) (Nat.le_of_ble_eq_true rfl) (wpX12_thrown ?_)
      show AW Γ l mL_law_ 60 (b - 2) 2273 [vR 4000, vR 1, vR 171, vR 190, vI i, vI c, vI b9] [vI (g3 171 0)] (stt g3) K
      refine aw_iload (i := 5) (by decide +kernel) rfl ?_
      refine ax_icmp_eq (off := 5) (tgt := 2280) (x' := wr (g3 171 0)) (y' := wr c) (by decide +kernel) (by decide) rfl rfl (fun hc8 => ?_) (fun hc8 => absurd (by rw [z3]) hc8)
      refine aw_iload (i := 5) (by decide +kernel) rfl ?_
      refine ax_if_ne (off := 15) (tgt := 2297) (x' := wr c) (by decide +kernel) (by decide) rfl (fun hc7 => ?_) (fun hc7 => ?_)
      · skip
        refine aw_goto (off := 242) (tgt := 2539) (by decide +kernel) (by decide) ?_
        exact AW.locals (next g3 _ (by omega) r3) drop7
      · have hcr : 0 ≤ c ∧ c ≤ 1 := ha.1
        have hc0 : c = 0 := by have := wr_id (x := c) (by omega) (by omega); omega
        refine aw_aload_n (k' := 3) (by decide +kernel) rfl ?_
        refine aw_iconst (n := 0) (by decide +kernel) ?_
        refine aw_lald (t := 190) (j := 0) (n := 1) (by decide +kernel) (isA_lit (show shp 190 = (3, 1) by decide +kernel) (by decide)) (by decide +kernel) (by decide +kernel) ?_
        rw [wr_0]
        refine aw_iload (i := 6) (by decide +kernel) rfl ?_
        refine aw_i2l (by decide +kernel) ?_
        refine aw_lcmp (by decide +kernel) ?_
        have e0 : lCmp (g3 190 0) (wr b9) = 0 := by rw [f3, h190 hc0, e3 hc0]; exact lCmp_self _
        rw [e0]
        refine ax_if_eq (off := 5) (tgt := 2297) (x' := 0) (by decide +kernel) (by decide) (by decide +kernel) (fun _ => ?_) (fun hc5 => absurd rfl hc5)
        refine aw_goto (off := 242) (tgt := 2539) (by decide +kernel) (by decide) ?_
        exact AW.locals (next g3 _ (by omega) r3) drop7
    refine aw_callSH (y := yL_span) (M2 := mL_span) (as := [vR 1, vI (SC Γ (i + 1)), vI 0, vR 190]) (S := []) (idx := 256) (d2 := 0 + 7 + 1) (b2 := 2) (b3 := (b - 2)) cwL_span (tb_mem 1300 (by decide +kernel) (by decide +kernel)) stL_span (by decide +kernel) rfl (by decide) (by omega) rfl rfl (by simp [oneSlot]) (Nat.le_of_ble_eq_true rfl) (w_span (d2 := 0 + 7) (Nat.le_refl _) (fun c v g1 ha => ha.1) (p_span (Γ := Γ) (l := l) (d := 0) (n := SC Γ (i + 1)) (e := 0) h (wr_SC _) (by decide +kernel)).pa (fun v g1 ha => T 0 v g1 _ ha lo9_out (fun _ => upd2_eq)) (fun c v g1 ha hc9 => T c v g1 g1 ha (fun _ _ _ => rfl) (fun z => absurd z (by omega))))
  · skip
    refine aw_iconst (n := 1) (by decide +kernel) ?_
    refine aw_goto (off := 4) (tgt := 2237) (by decide +kernel) (by decide) ?_
    refine aw_aload_n (k' := 3) (by decide +kernel) rfl ?_
    have T : ∀ (c v : Int) (g1 g2 : GG), PA [eIA] (fun g2 K => Ct Γ l (0 + 13) 0 yX12_span mX12_span [vR 171, vI (SC Γ (i + 1)), vI 1] (stt g2) K) c v g1 → lo9 g1 g2 → (c = 0 → g2 190 0 = wr v) → AW Γ l mL_law_ 60 (b - 2) 2241 [vR 4000, vR 1, vR 171, vR 190, vI i, vU, vU] [vI c] (stt g2) K := by
      intro c v g1 g2 ha hlo h190
      refine aw_istore (i := 5) (by decide +kernel) (by decide) ?_
      show AW Γ l mL_law_ 60 (b - 2) 2243 [vR 4000, vR 1, vR 171, vR 190, vI i, vI c, vU] [] (stt g2) K
      refine aw_aload_n (k' := 2) (by decide +kernel) rfl ?_
      refine aw_aload_n (k' := 0) (by decide +kernel) rfl ?_
      refine aw_iload (i := 4) (by decide +kernel) rfl ?_
      refine aw_iconst (n := 1) (by decide +kernel) ?_
      refine aw_iadd (by decide +kernel) ?_
      refine aw_sld (x' := i + 1) (by decide +kernel) (wr_id (by omega) (by omega)) (by omega) ?_
      refine aw_aload_n (k' := 0) (by decide +kernel) rfl ?_
      refine aw_iload (i := 4) (by decide +kernel) rfl ?_
      refine aw_iconst (n := 2) (by decide +kernel) ?_
      refine aw_iadd (by decide +kernel) ?_
      refine aw_sld (x' := i + 2) (by decide +kernel) (wr_id (by omega) (by omega)) (by omega) ?_
      refine ax_if_eq (off := 7) (tgt := 2263) (x' := SC Γ (i + 2)) (by decide +kernel) (by decide) (wr_SC _) (fun hc9 => absurd hc9 hc) (fun _ => ?_)
      refine aw_iconst (n := 1) (by decide +kernel) ?_
      refine aw_goto (off := 4) (tgt := 2264) (by decide +kernel) (by decide) ?_
      refine aw_callV (y := yX12_span) (M2 := mX12_span) (as := [vI (SC Γ (i + 1)), vI 1]) (S := []) (idx := 258) (t := 171) (d2 := 0 + 13) (b2 := 0) (b3 := (b - 2)) cwX12_span (tb_mem 2002 (by decide +kernel) (by decide +kernel)) imX12_span seX12_span (by decide +kernel) rfl (ci := 10) rfl (OB.at (ci := 10) (show shp 171 = (20, 0) by decide +kernel) (by decide)) (by decide) (Nat.le_of_eq (Nat.zero_add _)) rfl rfl (by simp [oneSlot]) (Nat.le_of_ble_eq_true rfl) (Ct.mono (ha.2 g2 (fun b9 g3 => Rel9 g3 ∧ g3 171 0 = c ∧ (c = 0 → b9 = v) ∧ g3 190 0 = g2 190 0) hlo (fun b9 g3 r z e f => ⟨r, z, e, f 0⟩)) ?_)
      rintro o h' ⟨b9, g3, ⟨rfl, rfl⟩, r3, z3, e3, f3⟩
      show AW Γ l mL_law_ 60 (b - 2) 2267 [vR 4000, vR 1, vR 171, vR 190, vI i, vI c, vU] [vI b9] (stt g3) K
      refine aw_istore (i := 6) (by decide +kernel) (by decide) ?_
      show AW Γ l mL_law_ 60 (b - 2) 2269 [vR 4000, vR 1, vR 171, vR 190, vI i, vI c, vI b9] [] (stt g3) K
      refine aw_aload_n (k' := 2) (by decide +kernel) rfl ?_
      refine aw_callV (y := yX12_thrown) (M2 := mX12_thrown) (as := []) (S := []) (idx := 145) (t := 171) (d2 := 0) (b2 := 0) (b3 := (b - 2)) cwX12_thrown (tb_mem 1322 (by decide +kernel) (by decide +kernel)) imX12_thrown seX12_thrown (by decide +kernel) rfl (ci := 10) rfl (OB.at (ci := 10) (show shp 171 = (20, 0) by decide +kernel) (by decide)) (by decide) (Nat.le_of_eq (Nat.zero_add _)) rfl rfl (by simp [oneSlot]) (Nat.le_of_ble_eq_true rfl) (wpX12_thrown ?_)
      show AW Γ l mL_law_ 60 (b - 2) 2273 [vR 4000, vR 1, vR 171, vR 190, vI i, vI c, vI b9] [vI (g3 171 0)] (stt g3) K
      refine aw_iload (i := 5) (by decide +kernel) rfl ?_
      refine ax_icmp_eq (off := 5) (tgt := 2280) (x' := wr (g3 171 0)) (y' := wr c) (by decide +kernel) (by decide) rfl rfl (fun hc8 => ?_) (fun hc8 => absurd (by rw [z3]) hc8)
      refine aw_iload (i := 5) (by decide +kernel) rfl ?_
      refine ax_if_ne (off := 15) (tgt := 2297) (x' := wr c) (by decide +kernel) (by decide) rfl (fun hc7 => ?_) (fun hc7 => ?_)
      · skip
        refine aw_goto (off := 242) (tgt := 2539) (by decide +kernel) (by decide) ?_
        exact AW.locals (next g3 _ (by omega) r3) drop7
      · have hcr : 0 ≤ c ∧ c ≤ 1 := ha.1
        have hc0 : c = 0 := by have := wr_id (x := c) (by omega) (by omega); omega
        refine aw_aload_n (k' := 3) (by decide +kernel) rfl ?_
        refine aw_iconst (n := 0) (by decide +kernel) ?_
        refine aw_lald (t := 190) (j := 0) (n := 1) (by decide +kernel) (isA_lit (show shp 190 = (3, 1) by decide +kernel) (by decide)) (by decide +kernel) (by decide +kernel) ?_
        rw [wr_0]
        refine aw_iload (i := 6) (by decide +kernel) rfl ?_
        refine aw_i2l (by decide +kernel) ?_
        refine aw_lcmp (by decide +kernel) ?_
        have e0 : lCmp (g3 190 0) (wr b9) = 0 := by rw [f3, h190 hc0, e3 hc0]; exact lCmp_self _
        rw [e0]
        refine ax_if_eq (off := 5) (tgt := 2297) (x' := 0) (by decide +kernel) (by decide) (by decide +kernel) (fun _ => ?_) (fun hc5 => absurd rfl hc5)
        refine aw_goto (off := 242) (tgt := 2539) (by decide +kernel) (by decide) ?_
        exact AW.locals (next g3 _ (by omega) r3) drop7
    refine aw_callSH (y := yL_span) (M2 := mL_span) (as := [vR 1, vI (SC Γ (i + 1)), vI 1, vR 190]) (S := []) (idx := 256) (d2 := 0 + 7 + 1) (b2 := 2) (b3 := (b - 2)) cwL_span (tb_mem 1300 (by decide +kernel) (by decide +kernel)) stL_span (by decide +kernel) rfl (by decide) (by omega) rfl rfl (by simp [oneSlot]) (Nat.le_of_ble_eq_true rfl) (w_span (d2 := 0 + 7) (Nat.le_refl _) (fun c v g1 ha => ha.1) (p_span (Γ := Γ) (l := l) (d := 0) (n := SC Γ (i + 1)) (e := 1) h (wr_SC _) (by decide +kernel)).pa (fun v g1 ha => T 0 v g1 _ ha lo9_out (fun _ => upd2_eq)) (fun c v g1 ha hc9 => T c v g1 g1 ha (fun _ _ _ => rfl) (fun z => absurd z (by omega))))
set_option maxHeartbeats 1000000 in
theorem lc_37 {Γ : Cfg} {l : Launch} {b : Nat} {i : Int} {g : GG} {K : Ou → HP → Prop} (hi : 0 ≤ i ∧ i + 6 ≤ (Γ.2.2.2.2.1 : Int)) (hN : Γ.2.2.2.2.1 ≤ 3072) (h : Rel9 g) (hb : 8 ≤ b) (next : ∀ (g' : GG) (b' : Nat), b - 4 ≤ b' → Rel9 g' → AW Γ l mL_law_ 60 b' 2539 [vR 4000, vR 1, vR 171, vR 190, vI i, vU, vU] [] (stt g') K) : AW Γ l mL_law_ 60 b 2300 [vR 4000, vR 1, vR 171, vR 190, vI i, vU, vU] [] (stt g) K := by
  refine aw_aload_n (k' := 1) (by decide +kernel) rfl ?_
  refine aw_aload_n (k' := 0) (by decide +kernel) rfl ?_
  refine aw_iload (i := 4) (by decide +kernel) rfl ?_
  refine aw_iconst (n := 1) (by decide +kernel) ?_
  refine aw_iadd (by decide +kernel) ?_
  refine aw_sld (x' := i + 1) (by decide +kernel) (wr_id (by omega) (by omega)) (by omega) ?_
  refine aw_aload_n (k' := 0) (by decide +kernel) rfl ?_
  refine aw_iload (i := 4) (by decide +kernel) rfl ?_
  refine aw_iconst (n := 2) (by decide +kernel) ?_
  refine aw_iadd (by decide +kernel) ?_
  refine aw_sld (x' := i + 2) (by decide +kernel) (wr_id (by omega) (by omega)) (by omega) ?_
  refine ax_if_eq (off := 7) (tgt := 2320) (x' := SC Γ (i + 2)) (by decide +kernel) (by decide) (wr_SC _) (fun hc => ?_) (fun hc => ?_)
  · skip
    refine aw_iconst (n := 0) (by decide +kernel) ?_
    refine aw_aload_n (k' := 3) (by decide +kernel) rfl ?_
    have T : ∀ (c v : Int) (g1 g2 : GG), PA [eIO] (fun g2 K => Ct Γ l (0 + 2) 0 yX12_led mX12_led [vR 171, vI (SC Γ (i + 1)), vI 0] (stt g2) K) c v g1 → lo9 g1 g2 → (c = 0 → g2 190 0 = wr v) → AW Γ l mL_law_ 60 (b - 2) 2325 [vR 4000, vR 1, vR 171, vR 190, vI i, vU, vU] [vI c] (stt g2) K := by
      intro c v g1 g2 ha hlo h190
      refine aw_istore (i := 5) (by decide +kernel) (by decide) ?_
      show AW Γ l mL_law_ 60 (b - 2) 2327 [vR 4000, vR 1, vR 171, vR 190, vI i, vI c, vU] [] (stt g2) K
      refine aw_aload_n (k' := 2) (by decide +kernel) rfl ?_
      refine aw_aload_n (k' := 0) (by decide +kernel) rfl ?_
      refine aw_iload (i := 4) (by decide +kernel) rfl ?_
      refine aw_iconst (n := 1) (by decide +kernel) ?_
      refine aw_iadd (by decide +kernel) ?_
      refine aw_sld (x' := i + 1) (by decide +kernel) (wr_id (by omega) (by omega)) (by omega) ?_
      refine aw_aload_n (k' := 0) (by decide +kernel) rfl ?_
      refine aw_iload (i := 4) (by decide +kernel) rfl ?_
      refine aw_iconst (n := 2) (by decide +kernel) ?_
      refine aw_iadd (by decide +kernel) ?_
      refine aw_sld (x' := i + 2) (by decide +kernel) (wr_id (by omega) (by omega)) (by omega) ?_
      refine ax_if_eq (off := 7) (tgt := 2347) (x' := SC Γ (i + 2)) (by decide +kernel) (by decide) (wr_SC _) (fun _ => ?_) (fun hc9 => absurd hc hc9)
      refine aw_iconst (n := 0) (by decide +kernel) ?_
      refine aw_callV (y := yX12_led) (M2 := mX12_led) (as := [vI (SC Γ (i + 1)), vI 0]) (S := []) (idx := 261) (t := 171) (d2 := 0 + 2) (b2 := 0) (b3 := (b - 2)) cwX12_led (tb_mem 2006 (by decide +kernel) (by decide +kernel)) imX12_led seX12_led (by decide +kernel) rfl (ci := 10) rfl (OB.at (ci := 10) (show shp 171 = (20, 0) by decide +kernel) (by decide)) (by decide) (Nat.le_of_eq (Nat.zero_add _)) rfl rfl (by simp [oneSlot]) (Nat.le_of_ble_eq_true rfl) (Ct.mono (ha.2 g2 (fun b9 g3 => Rel9 g3 ∧ g3 171 0 = c ∧ (c = 0 → b9 = v) ∧ g3 190 0 = g2 190 0) hlo (fun b9 g3 r z e f => ⟨r, z, e, f 0⟩)) ?_)
      rintro o h' ⟨b9, g3, ⟨rfl, rfl⟩, r3, z3, e3, f3⟩
      show AW Γ l mL_law_ 60 (b - 2) 2351 [vR 4000, vR 1, vR 171, vR 190, vI i, vI c, vU] [vI b9] (stt g3) K
      refine aw_istore (i := 6) (by decide +kernel) (by decide) ?_
      show AW Γ l mL_law_ 60 (b - 2) 2353 [vR 4000, vR 1, vR 171, vR 190, vI i, vI c, vI b9] [] (stt g3) K
      refine aw_aload_n (k' := 2) (by decide +kernel) rfl ?_
      refine aw_callV (y := yX12_thrown) (M2 := mX12_thrown) (as := []) (S := []) (idx := 145) (t := 171) (d2 := 0) (b2 := 0) (b3 := (b - 2)) cwX12_thrown (tb_mem 1322 (by decide +kernel) (by decide +kernel)) imX12_thrown seX12_thrown (by decide +kernel) rfl (ci := 10) rfl (OB.at (ci := 10) (show shp 171 = (20, 0) by decide +kernel) (by decide)) (by decide) (Nat.le_of_eq (Nat.zero_add _)) rfl rfl (by simp [oneSlot]) (Nat.le_of_ble_eq_true rfl) (wpX12_thrown ?_)
      show AW Γ l mL_law_ 60 (b - 2) 2357 [vR 4000, vR 1, vR 171, vR 190, vI i, vI c, vI b9] [vI (g3 171 0)] (stt g3) K
      refine aw_iload (i := 5) (by decide +kernel) rfl ?_
      refine ax_icmp_eq (off := 5) (tgt := 2364) (x' := wr (g3 171 0)) (y' := wr c) (by decide +kernel) (by decide) rfl rfl (fun hc8 => ?_) (fun hc8 => absurd (by rw [z3]) hc8)
      refine aw_iload (i := 5) (by decide +kernel) rfl ?_
      refine ax_if_ne (off := 15) (tgt := 2381) (x' := wr c) (by decide +kernel) (by decide) rfl (fun hc7 => ?_) (fun hc7 => ?_)
      · skip
        refine aw_goto (off := 158) (tgt := 2539) (by decide +kernel) (by decide) ?_
        exact AW.locals (next g3 _ (by omega) r3) drop7
      · have hcr : 0 ≤ c ∧ c ≤ 1 := ha.1
        have hc0 : c = 0 := by have := wr_id (x := c) (by omega) (by omega); omega
        refine aw_aload_n (k' := 3) (by decide +kernel) rfl ?_
        refine aw_iconst (n := 0) (by decide +kernel) ?_
        refine aw_lald (t := 190) (j := 0) (n := 1) (by decide +kernel) (isA_lit (show shp 190 = (3, 1) by decide +kernel) (by decide)) (by decide +kernel) (by decide +kernel) ?_
        rw [wr_0]
        refine aw_iload (i := 6) (by decide +kernel) rfl ?_
        refine aw_i2l (by decide +kernel) ?_
        refine aw_lcmp (by decide +kernel) ?_
        have e0 : lCmp (g3 190 0) (wr b9) = 0 := by rw [f3, h190 hc0, e3 hc0]; exact lCmp_self _
        rw [e0]
        refine ax_if_eq (off := 5) (tgt := 2381) (x' := 0) (by decide +kernel) (by decide) (by decide +kernel) (fun _ => ?_) (fun hc5 => absurd rfl hc5)
        refine aw_goto (off := 158) (tgt := 2539) (by decide +kernel) (by decide) ?_
        exact AW.locals (next g3 _ (by omega) r3) drop7
    refine aw_callSH (y := yL_led) (M2 := mL_led) (as := [vR 1, vI (SC Γ (i + 1)), vI 0, vR 190]) (S := []) (idx := 259) (d2 := 0 + 2 + 1) (b2 := 2) (b3 := (b - 2)) cwL_led (tb_mem 1307 (by decide +kernel) (by decide +kernel)) stL_led (by decide +kernel) rfl (by decide) (by omega) rfl rfl (by simp [oneSlot]) (Nat.le_of_ble_eq_true rfl) (w_led (d2 := 0 + 2) (Nat.le_refl _) (fun c v g1 ha => ha.1) (p_led (Γ := Γ) (l := l) (d := 0) (p := SC Γ (i + 1)) (n := 0) h (wr_SC _) (by decide +kernel)).pa (fun v g1 ha => T 0 v g1 _ ha lo9_out (fun _ => upd2_eq)) (fun c v g1 ha hc9 => T c v g1 g1 ha (fun _ _ _ => rfl) (fun z => absurd z (by omega))))
  · skip
    refine aw_iconst (n := 1) (by decide +kernel) ?_
    refine aw_goto (off := 4) (tgt := 2321) (by decide +kernel) (by decide) ?_
    refine aw_aload_n (k' := 3) (by decide +kernel) rfl ?_
    have T : ∀ (c v : Int) (g1 g2 : GG), PA [eIO] (fun g2 K => Ct Γ l (0 + 2) 0 yX12_led mX12_led [vR 171, vI (SC Γ (i + 1)), vI 1] (stt g2) K) c v g1 → lo9 g1 g2 → (c = 0 → g2 190 0 = wr v) → AW Γ l mL_law_ 60 (b - 2) 2325 [vR 4000, vR 1, vR 171, vR 190, vI i, vU, vU] [vI c] (stt g2) K := by
      intro c v g1 g2 ha hlo h190
      refine aw_istore (i := 5) (by decide +kernel) (by decide) ?_
      show AW Γ l mL_law_ 60 (b - 2) 2327 [vR 4000, vR 1, vR 171, vR 190, vI i, vI c, vU] [] (stt g2) K
      refine aw_aload_n (k' := 2) (by decide +kernel) rfl ?_
      refine aw_aload_n (k' := 0) (by decide +kernel) rfl ?_
      refine aw_iload (i := 4) (by decide +kernel) rfl ?_
      refine aw_iconst (n := 1) (by decide +kernel) ?_
      refine aw_iadd (by decide +kernel) ?_
      refine aw_sld (x' := i + 1) (by decide +kernel) (wr_id (by omega) (by omega)) (by omega) ?_
      refine aw_aload_n (k' := 0) (by decide +kernel) rfl ?_
      refine aw_iload (i := 4) (by decide +kernel) rfl ?_
      refine aw_iconst (n := 2) (by decide +kernel) ?_
      refine aw_iadd (by decide +kernel) ?_
      refine aw_sld (x' := i + 2) (by decide +kernel) (wr_id (by omega) (by omega)) (by omega) ?_
      refine ax_if_eq (off := 7) (tgt := 2347) (x' := SC Γ (i + 2)) (by decide +kernel) (by decide) (wr_SC _) (fun hc9 => absurd hc9 hc) (fun _ => ?_)
      refine aw_iconst (n := 1) (by decide +kernel) ?_
      refine aw_goto (off := 4) (tgt := 2348) (by decide +kernel) (by decide) ?_
      refine aw_callV (y := yX12_led) (M2 := mX12_led) (as := [vI (SC Γ (i + 1)), vI 1]) (S := []) (idx := 261) (t := 171) (d2 := 0 + 2) (b2 := 0) (b3 := (b - 2)) cwX12_led (tb_mem 2006 (by decide +kernel) (by decide +kernel)) imX12_led seX12_led (by decide +kernel) rfl (ci := 10) rfl (OB.at (ci := 10) (show shp 171 = (20, 0) by decide +kernel) (by decide)) (by decide) (Nat.le_of_eq (Nat.zero_add _)) rfl rfl (by simp [oneSlot]) (Nat.le_of_ble_eq_true rfl) (Ct.mono (ha.2 g2 (fun b9 g3 => Rel9 g3 ∧ g3 171 0 = c ∧ (c = 0 → b9 = v) ∧ g3 190 0 = g2 190 0) hlo (fun b9 g3 r z e f => ⟨r, z, e, f 0⟩)) ?_)
      rintro o h' ⟨b9, g3, ⟨rfl, rfl⟩, r3, z3, e3, f3⟩
      show AW Γ l mL_law_ 60 (b - 2) 2351 [vR 4000, vR 1, vR 171, vR 190, vI i, vI c, vU] [vI b9] (stt g3) K
      refine aw_istore (i := 6) (by decide +kernel) (by decide) ?_
      show AW Γ l mL_law_ 60 (b - 2) 2353 [vR 4000, vR 1, vR 171, vR 190, vI i, vI c, vI b9] [] (stt g3) K
      refine aw_aload_n (k' := 2) (by decide +kernel) rfl ?_
      refine aw_callV (y := yX12_thrown) (M2 := mX12_thrown) (as := []) (S := []) (idx := 145) (t := 171) (d2 := 0) (b2 := 0) (b3 := (b - 2)) cwX12_thrown (tb_mem 1322 (by decide +kernel) (by decide +kernel)) imX12_thrown seX12_thrown (by decide +kernel) rfl (ci := 10) rfl (OB.at (ci := 10) (show shp 171 = (20, 0) by decide +kernel) (by decide)) (by decide) (Nat.le_of_eq (Nat.zero_add _)) rfl rfl (by simp [oneSlot]) (Nat.le_of_ble_eq_true rfl) (wpX12_thrown ?_)
      show AW Γ l mL_law_ 60 (b - 2) 2357 [vR 4000, vR 1, vR 171, vR 190, vI i, vI c, vI b9] [vI (g3 171 0)] (stt g3) K
      refine aw_iload (i := 5) (by decide +kernel) rfl ?_
      refine ax_icmp_eq (off := 5) (tgt := 2364) (x' := wr (g3 171 0)) (y' := wr c) (by decide +kernel) (by decide) rfl rfl (fun hc8 => ?_) (fun hc8 => absurd (by rw [z3]) hc8)
      refine aw_iload (i := 5) (by decide +kernel) rfl ?_
      refine ax_if_ne (off := 15) (tgt := 2381) (x' := wr c) (by decide +kernel) (by decide) rfl (fun hc7 => ?_) (fun hc7 => ?_)
      · skip
        refine aw_goto (off := 158) (tgt := 2539) (by decide +kernel) (by decide) ?_
        exact AW.locals (next g3 _ (by omega) r3) drop7
      · have hcr : 0 ≤ c ∧ c ≤ 1 := ha.1
        have hc0 : c = 0 := by have := wr_id (x := c) (by omega) (by omega); omega
        refine aw_aload_n (k' := 3) (by decide +kernel) rfl ?_
        refine aw_iconst (n := 0) (by decide +kernel) ?_
        refine aw_lald (t := 190) (j := 0) (n := 1) (by decide +kernel) (isA_lit (show shp 190 = (3, 1) by decide +kernel) (by decide)) (by decide +kernel) (by decide +kernel) ?_
        rw [wr_0]
        refine aw_iload (i := 6) (by decide +kernel) rfl ?_
        refine aw_i2l (by decide +kernel) ?_
        refine aw_lcmp (by decide +kernel) ?_
        have e0 : lCmp (g3 190 0) (wr b9) = 0 := by rw [f3, h190 hc0, e3 hc0]; exact lCmp_self _
        rw [e0]
        refine ax_if_eq (off := 5) (tgt := 2381) (x' := 0) (by decide +kernel) (by decide) (by decide +kernel) (fun _ => ?_) (fun hc5 => absurd rfl hc5)
        refine aw_goto (off := 158) (tgt := 2539) (by decide +kernel) (by decide) ?_
        exact AW.locals (next g3 _ (by omega) r3) drop7
    refine aw_callSH (y := yL_led) (M2 := mL_led) (as := [vR 1, vI (SC Γ (i + 1)), vI 1, vR 190]) (S := []) (idx := 259) (d2 := 0 + 2 + 1) (b2 := 2) (b3 := (b - 2)) cwL_led (tb_mem 1307 (by decide +kernel) (by decide +kernel)) stL_led (by decide +kernel) rfl (by decide) (by omega) rfl rfl (by simp [oneSlot]) (Nat.le_of_ble_eq_true rfl) (w_led (d2 := 0 + 2) (Nat.le_refl _) (fun c v g1 ha => ha.1) (p_led (Γ := Γ) (l := l) (d := 0) (p := SC Γ (i + 1)) (n := 1) h (wr_SC _) (by decide +kernel)).pa (fun v g1 ha => T 0 v g1 _ ha lo9_out (fun _ => upd2_eq)) (fun c v g1 ha hc9 => T c v g1 g1 ha (fun _ _ _ => rfl) (fun z => absurd z (by omega))))
set_option maxHeartbeats 1000000 in
theorem lc_38 {Γ : Cfg} {l : Launch} {b : Nat} {i : Int} {g : GG} {K : Ou → HP → Prop} (hi : 0 ≤ i ∧ i + 6 ≤ (Γ.2.2.2.2.1 : Int)) (hN : Γ.2.2.2.2.1 ≤ 3072) (h : Rel9 g) (hb : 8 ≤ b) (next : ∀ (g' : GG) (b' : Nat), b - 4 ≤ b' → Rel9 g' → AW Γ l mL_law_ 60 b' 2539 [vR 4000, vR 1, vR 171, vR 190, vI i, vU, vU] [] (stt g') K) : AW Γ l mL_law_ 60 b 2384 [vR 4000, vR 1, vR 171, vR 190, vI i, vU, vU] [] (stt g) K := by
  refine aw_aload_n (k' := 1) (by decide +kernel) rfl ?_
  refine aw_aload_n (k' := 0) (by decide +kernel) rfl ?_
  refine aw_iload (i := 4) (by decide +kernel) rfl ?_
  refine aw_iconst (n := 1) (by decide +kernel) ?_
  refine aw_iadd (by decide +kernel) ?_
  refine aw_sld (x' := i + 1) (by decide +kernel) (wr_id (by omega) (by omega)) (by omega) ?_
  refine aw_aload_n (k' := 0) (by decide +kernel) rfl ?_
  refine aw_iload (i := 4) (by decide +kernel) rfl ?_
  refine aw_iconst (n := 2) (by decide +kernel) ?_
  refine aw_iadd (by decide +kernel) ?_
  refine aw_sld (x' := i + 2) (by decide +kernel) (wr_id (by omega) (by omega)) (by omega) ?_
  refine aw_aload_n (k' := 3) (by decide +kernel) rfl ?_
  have T : ∀ (c v : Int) (g1 g2 : GG), PA [eNS] (fun g2 K => Ct Γ l (0 + 1) 0 yX12_log mX12_log [vR 171, vI (SC Γ (i + 1)), vI (SC Γ (i + 2))] (stt g2) K) c v g1 → lo9 g1 g2 → (c = 0 → g2 190 0 = wr v) → AW Γ l mL_law_ 60 (b - 1) 2401 [vR 4000, vR 1, vR 171, vR 190, vI i, vU, vU] [vI c] (stt g2) K := by
    intro c v g1 g2 ha hlo h190
    refine aw_istore (i := 5) (by decide +kernel) (by decide) ?_
    show AW Γ l mL_law_ 60 (b - 1) 2403 [vR 4000, vR 1, vR 171, vR 190, vI i, vI c, vU] [] (stt g2) K
    refine aw_aload_n (k' := 2) (by decide +kernel) rfl ?_
    refine aw_aload_n (k' := 0) (by decide +kernel) rfl ?_
    refine aw_iload (i := 4) (by decide +kernel) rfl ?_
    refine aw_iconst (n := 1) (by decide +kernel) ?_
    refine aw_iadd (by decide +kernel) ?_
    refine aw_sld (x' := i + 1) (by decide +kernel) (wr_id (by omega) (by omega)) (by omega) ?_
    refine aw_aload_n (k' := 0) (by decide +kernel) rfl ?_
    refine aw_iload (i := 4) (by decide +kernel) rfl ?_
    refine aw_iconst (n := 2) (by decide +kernel) ?_
    refine aw_iadd (by decide +kernel) ?_
    refine aw_sld (x' := i + 2) (by decide +kernel) (wr_id (by omega) (by omega)) (by omega) ?_
    refine aw_callV (y := yX12_log) (M2 := mX12_log) (as := [vI (SC Γ (i + 1)), vI (SC Γ (i + 2))]) (S := []) (idx := 264) (t := 171) (d2 := 0 + 1) (b2 := 0) (b3 := (b - 1)) cwX12_log (tb_mem 2014 (by decide +kernel) (by decide +kernel)) imX12_log seX12_log (by decide +kernel) rfl (ci := 10) rfl (OB.at (ci := 10) (show shp 171 = (20, 0) by decide +kernel) (by decide)) (by decide) (Nat.le_of_eq (Nat.zero_add _)) rfl rfl (by simp [oneSlot]) (Nat.le_of_ble_eq_true rfl) (Ct.mono (ha.2 g2 (fun b9 g3 => Rel9 g3 ∧ g3 171 0 = c ∧ (c = 0 → b9 = v) ∧ g3 190 0 = g2 190 0) hlo (fun b9 g3 r z e f => ⟨r, z, e, f 0⟩)) ?_)
    rintro o h' ⟨b9, g3, ⟨rfl, rfl⟩, r3, z3, e3, f3⟩
    show AW Γ l mL_law_ 60 (b - 1) 2419 [vR 4000, vR 1, vR 171, vR 190, vI i, vI c, vU] [vI b9] (stt g3) K
    refine aw_istore (i := 6) (by decide +kernel) (by decide) ?_
    show AW Γ l mL_law_ 60 (b - 1) 2421 [vR 4000, vR 1, vR 171, vR 190, vI i, vI c, vI b9] [] (stt g3) K
    refine aw_aload_n (k' := 2) (by decide +kernel) rfl ?_
    refine aw_callV (y := yX12_thrown) (M2 := mX12_thrown) (as := []) (S := []) (idx := 145) (t := 171) (d2 := 0) (b2 := 0) (b3 := (b - 1)) cwX12_thrown (tb_mem 1322 (by decide +kernel) (by decide +kernel)) imX12_thrown seX12_thrown (by decide +kernel) rfl (ci := 10) rfl (OB.at (ci := 10) (show shp 171 = (20, 0) by decide +kernel) (by decide)) (by decide) (Nat.le_of_eq (Nat.zero_add _)) rfl rfl (by simp [oneSlot]) (Nat.le_of_ble_eq_true rfl) (wpX12_thrown ?_)
    show AW Γ l mL_law_ 60 (b - 1) 2425 [vR 4000, vR 1, vR 171, vR 190, vI i, vI c, vI b9] [vI (g3 171 0)] (stt g3) K
    refine aw_iload (i := 5) (by decide +kernel) rfl ?_
    refine ax_icmp_eq (off := 5) (tgt := 2432) (x' := wr (g3 171 0)) (y' := wr c) (by decide +kernel) (by decide) rfl rfl (fun hc8 => ?_) (fun hc8 => absurd (by rw [z3]) hc8)
    refine aw_iload (i := 5) (by decide +kernel) rfl ?_
    refine ax_if_ne (off := 15) (tgt := 2449) (x' := wr c) (by decide +kernel) (by decide) rfl (fun hc7 => ?_) (fun hc7 => ?_)
    · skip
      refine aw_goto (off := 90) (tgt := 2539) (by decide +kernel) (by decide) ?_
      exact AW.locals (next g3 _ (by omega) r3) drop7
    · have hcr : 0 ≤ c ∧ c ≤ 1 := ha.1
      have hc0 : c = 0 := by have := wr_id (x := c) (by omega) (by omega); omega
      refine aw_aload_n (k' := 3) (by decide +kernel) rfl ?_
      refine aw_iconst (n := 0) (by decide +kernel) ?_
      refine aw_lald (t := 190) (j := 0) (n := 1) (by decide +kernel) (isA_lit (show shp 190 = (3, 1) by decide +kernel) (by decide)) (by decide +kernel) (by decide +kernel) ?_
      rw [wr_0]
      refine aw_iload (i := 6) (by decide +kernel) rfl ?_
      refine aw_i2l (by decide +kernel) ?_
      refine aw_lcmp (by decide +kernel) ?_
      have e0 : lCmp (g3 190 0) (wr b9) = 0 := by rw [f3, h190 hc0, e3 hc0]; exact lCmp_self _
      rw [e0]
      refine ax_if_eq (off := 5) (tgt := 2449) (x' := 0) (by decide +kernel) (by decide) (by decide +kernel) (fun _ => ?_) (fun hc5 => absurd rfl hc5)
      refine aw_goto (off := 90) (tgt := 2539) (by decide +kernel) (by decide) ?_
      exact AW.locals (next g3 _ (by omega) r3) drop7
  refine aw_callSH (y := yL_log) (M2 := mL_log) (as := [vR 1, vI (SC Γ (i + 1)), vI (SC Γ (i + 2)), vR 190]) (S := []) (idx := 262) (d2 := 0 + 1 + 1) (b2 := 1) (b3 := (b - 1)) cwL_log (tb_mem 1314 (by decide +kernel) (by decide +kernel)) stL_log (by decide +kernel) rfl (by decide) (by omega) rfl rfl (by simp [oneSlot]) (Nat.le_of_ble_eq_true rfl) (w_log (d2 := 0 + 1) (Nat.le_refl _) (fun c v g1 ha => ha.1) (p_log (Γ := Γ) (l := l) (d := 0) (i := SC Γ (i + 1)) (w := SC Γ (i + 2)) h (wr_SC _) (wr_SC _)).pa (fun v g1 ha => T 0 v g1 _ ha lo9_out (fun _ => upd2_eq)) (fun c v g1 ha hc9 => T c v g1 g1 ha (fun _ _ _ => rfl) (fun z => absurd z (by omega))))
set_option maxHeartbeats 1000000 in
theorem lc_39 {Γ : Cfg} {l : Launch} {b : Nat} {i : Int} {g : GG} {K : Ou → HP → Prop} (hi : 0 ≤ i ∧ i + 6 ≤ (Γ.2.2.2.2.1 : Int)) (hN : Γ.2.2.2.2.1 ≤ 3072) (h : Rel9 g) (hb : 8 ≤ b) (next : ∀ (g' : GG) (b' : Nat), b - 4 ≤ b' → Rel9 g' → AW Γ l mL_law_ 60 b' 2539 [vR 4000, vR 1, vR 171, vR 190, vI i, vU, vU] [] (stt g') K) : AW Γ l mL_law_ 60 b 2452 [vR 4000, vR 1, vR 171, vR 190, vI i, vU, vU] [] (stt g) K := by
  refine aw_aload_n (k' := 1) (by decide +kernel) rfl ?_
  refine aw_aload_n (k' := 0) (by decide +kernel) rfl ?_
  refine aw_iload (i := 4) (by decide +kernel) rfl ?_
  refine aw_iconst (n := 1) (by decide +kernel) ?_
  refine aw_iadd (by decide +kernel) ?_
  refine aw_sld (x' := i + 1) (by decide +kernel) (wr_id (by omega) (by omega)) (by omega) ?_
  refine aw_callV (y := yX11_seed) (M2 := mX11_seed) (as := [vI (SC Γ (i + 1))]) (S := []) (idx := 265) (t := 1) (d2 := 0) (b2 := 0) (b3 := b) cwX11_seed (tb_mem 523 (by decide +kernel) (by decide +kernel)) imX11_seed seX11_seed (by decide +kernel) rfl (ci := 9) rfl (OB.at (ci := 9) (show shp 1 = (19, 0) by decide +kernel) (by decide)) (by decide) (Nat.le_of_eq (Nat.zero_add _)) rfl rfl (by simp [oneSlot]) (Nat.le_of_ble_eq_true rfl) (Ct.mono (p_seed (Γ := Γ) (l := l) (d := 0) (n := SC Γ (i + 1)) h ).pa ?_)
  rintro o h' ⟨v, g1, ⟨rfl, rfl⟩, ha⟩
  show AW Γ l mL_law_ 60 b 2462 [vR 4000, vR 1, vR 171, vR 190, vI i, vU, vU] [vI v] (stt g1) K
  refine aw_aload_n (k' := 2) (by decide +kernel) rfl ?_
  refine aw_aload_n (k' := 0) (by decide +kernel) rfl ?_
  refine aw_iload (i := 4) (by decide +kernel) rfl ?_
  refine aw_iconst (n := 1) (by decide +kernel) ?_
  refine aw_iadd (by decide +kernel) ?_
  refine aw_sld (x' := i + 1) (by decide +kernel) (wr_id (by omega) (by omega)) (by omega) ?_
  refine aw_callV (y := yX12_seed) (M2 := mX12_seed) (as := [vI (SC Γ (i + 1))]) (S := [vI v]) (idx := 268) (t := 171) (d2 := 0) (b2 := 0) (b3 := b) cwX12_seed (tb_mem 2018 (by decide +kernel) (by decide +kernel)) imX12_seed seX12_seed (by decide +kernel) rfl (ci := 10) rfl (OB.at (ci := 10) (show shp 171 = (20, 0) by decide +kernel) (by decide)) (by decide) (Nat.le_of_eq (Nat.zero_add _)) rfl rfl (by simp [oneSlot]) (Nat.le_of_ble_eq_true rfl) (Ct.mono (ha g1 (fun b9 g3 => b9 = v ∧ Rel9 g3) (fun _ _ _ => rfl) (fun g3 r f => ⟨rfl, r⟩)) ?_)
  rintro o h' ⟨b9, g3, ⟨rfl, rfl⟩, e9, r3⟩
  show AW Γ l mL_law_ 60 b 2472 [vR 4000, vR 1, vR 171, vR 190, vI i, vU, vU] [vI b9, vI v] (stt g3) K
  rw [e9]
  refine ax_icmp_eq (off := 67) (tgt := 2539) (x' := wr v) (y' := wr v) (by decide +kernel) (by decide) rfl rfl (fun hc8 => ?_) (fun hc8 => absurd rfl hc8)
  exact next g3 _ (by omega) r3
set_option maxHeartbeats 1000000 in
theorem lc_40 {Γ : Cfg} {l : Launch} {b : Nat} {i : Int} {g : GG} {K : Ou → HP → Prop} (hi : 0 ≤ i ∧ i + 6 ≤ (Γ.2.2.2.2.1 : Int)) (hN : Γ.2.2.2.2.1 ≤ 3072) (h : Rel9 g) (hb : 8 ≤ b) (next : ∀ (g' : GG) (b' : Nat), b - 4 ≤ b' → Rel9 g' → AW Γ l mL_law_ 60 b' 2539 [vR 4000, vR 1, vR 171, vR 190, vI i, vU, vU] [] (stt g') K) : AW Γ l mL_law_ 60 b 2477 [vR 4000, vR 1, vR 171, vR 190, vI i, vU, vU] [] (stt g) K := by
  refine aw_aload_n (k' := 1) (by decide +kernel) rfl ?_
  refine aw_callV (y := yX11_undo) (M2 := mX11_undo) (as := []) (S := []) (idx := 269) (t := 1) (d2 := 0 + 2) (b2 := 0) (b3 := b) cwX11_undo (tb_mem 527 (by decide +kernel) (by decide +kernel)) imX11_undo seX11_undo (by decide +kernel) rfl (ci := 9) rfl (OB.at (ci := 9) (show shp 1 = (19, 0) by decide +kernel) (by decide)) (by decide) (Nat.le_of_eq (Nat.zero_add _)) rfl rfl (by simp [oneSlot]) (Nat.le_of_ble_eq_true rfl) (Ct.mono (p_undo (Γ := Γ) (l := l) (d := 0)  h ).pa ?_)
  rintro o h' ⟨v, g1, ⟨rfl, rfl⟩, ha⟩
  show AW Γ l mL_law_ 60 b 2481 [vR 4000, vR 1, vR 171, vR 190, vI i, vU, vU] [vI v] (stt g1) K
  refine aw_aload_n (k' := 2) (by decide +kernel) rfl ?_
  refine aw_callV (y := yX12_undo) (M2 := mX12_undo) (as := []) (S := [vI v]) (idx := 273) (t := 171) (d2 := 0) (b2 := 0) (b3 := b) cwX12_undo (tb_mem 1444 (by decide +kernel) (by decide +kernel)) imX12_undo seX12_undo (by decide +kernel) rfl (ci := 10) rfl (OB.at (ci := 10) (show shp 171 = (20, 0) by decide +kernel) (by decide)) (by decide) (Nat.le_of_eq (Nat.zero_add _)) rfl rfl (by simp [oneSlot]) (Nat.le_of_ble_eq_true rfl) (Ct.mono (ha g1 (fun b9 g3 => b9 = v ∧ Rel9 g3) (fun _ _ _ => rfl) (fun g3 r f => ⟨rfl, r⟩)) ?_)
  rintro o h' ⟨b9, g3, ⟨rfl, rfl⟩, e9, r3⟩
  show AW Γ l mL_law_ 60 b 2485 [vR 4000, vR 1, vR 171, vR 190, vI i, vU, vU] [vI b9, vI v] (stt g3) K
  rw [e9]
  refine ax_icmp_eq (off := 54) (tgt := 2539) (x' := wr v) (y' := wr v) (by decide +kernel) (by decide) rfl rfl (fun hc8 => ?_) (fun hc8 => absurd rfl hc8)
  exact next g3 _ (by omega) r3
set_option maxHeartbeats 1000000 in
theorem lc_41 {Γ : Cfg} {l : Launch} {b : Nat} {i : Int} {g : GG} {K : Ou → HP → Prop} (hi : 0 ≤ i ∧ i + 6 ≤ (Γ.2.2.2.2.1 : Int)) (hN : Γ.2.2.2.2.1 ≤ 3072) (h : Rel9 g) (hb : 8 ≤ b) (next : ∀ (g' : GG) (b' : Nat), b - 4 ≤ b' → Rel9 g' → AW Γ l mL_law_ 60 b' 2539 [vR 4000, vR 1, vR 171, vR 190, vI i, vU, vU] [] (stt g') K) : AW Γ l mL_law_ 60 b 2490 [vR 4000, vR 1, vR 171, vR 190, vI i, vU, vU] [] (stt g) K := by
  refine aw_aload_n (k' := 1) (by decide +kernel) rfl ?_
  refine aw_callV (y := yX11_image) (M2 := mX11_image) (as := []) (S := []) (idx := 274) (t := 1) (d2 := 0 + 2) (b2 := 0) (b3 := b) cwX11_image (tb_mem 542 (by decide +kernel) (by decide +kernel)) imX11_image seX11_image (by decide +kernel) rfl (ci := 9) rfl (OB.at (ci := 9) (show shp 1 = (19, 0) by decide +kernel) (by decide)) (by decide) (Nat.le_of_eq (Nat.zero_add _)) rfl rfl (by simp [oneSlot]) (Nat.le_of_ble_eq_true rfl) (Ct.mono (p_image (Γ := Γ) (l := l) (d := 0)  h ).pa ?_)
  rintro o h' ⟨g1, ⟨rfl, rfl⟩, ha⟩
  show AW Γ l mL_law_ 60 b 2494 [vR 4000, vR 1, vR 171, vR 190, vI i, vU, vU] [] (stt g1) K
  refine aw_aload_n (k' := 2) (by decide +kernel) rfl ?_
  refine aw_callV (y := yX12_image) (M2 := mX12_image) (as := []) (S := []) (idx := 277) (t := 171) (d2 := 0) (b2 := 0) (b3 := b) cwX12_image (tb_mem 1436 (by decide +kernel) (by decide +kernel)) imX12_image seX12_image (by decide +kernel) rfl (ci := 10) rfl (OB.at (ci := 10) (show shp 171 = (20, 0) by decide +kernel) (by decide)) (by decide) (Nat.le_of_eq (Nat.zero_add _)) rfl rfl (by simp [oneSlot]) (Nat.le_of_ble_eq_true rfl) (Ct.mono (ha g1 (fun g3 => Rel9 g3) (fun _ _ _ => rfl) (fun g3 r f => r)) ?_)
  rintro o h' ⟨g3, ⟨rfl, rfl⟩, r3⟩
  show AW Γ l mL_law_ 60 b 2498 [vR 4000, vR 1, vR 171, vR 190, vI i, vU, vU] [] (stt g3) K
  refine aw_goto (off := 41) (tgt := 2539) (by decide +kernel) (by decide) ?_
  exact next g3 _ (by omega) r3
set_option maxHeartbeats 1000000 in
theorem lc_42 {Γ : Cfg} {l : Launch} {b : Nat} {i : Int} {g : GG} {K : Ou → HP → Prop} (hi : 0 ≤ i ∧ i + 6 ≤ (Γ.2.2.2.2.1 : Int)) (hN : Γ.2.2.2.2.1 ≤ 3072) (h : Rel9 g) (hb : 8 ≤ b) (next : ∀ (g' : GG) (b' : Nat), b - 4 ≤ b' → Rel9 g' → AW Γ l mL_law_ 60 b' 2539 [vR 4000, vR 1, vR 171, vR 190, vI i, vU, vU] [] (stt g') K) : AW Γ l mL_law_ 60 b 2501 [vR 4000, vR 1, vR 171, vR 190, vI i, vU, vU] [] (stt g) K := by
  refine aw_aload_n (k' := 1) (by decide +kernel) rfl ?_
  refine aw_callV (y := yX11_back) (M2 := mX11_back) (as := []) (S := []) (idx := 278) (t := 1) (d2 := 0 + 2) (b2 := 0) (b3 := b) cwX11_back (tb_mem 551 (by decide +kernel) (by decide +kernel)) imX11_back seX11_back (by decide +kernel) rfl (ci := 9) rfl (OB.at (ci := 9) (show shp 1 = (19, 0) by decide +kernel) (by decide)) (by decide) (Nat.le_of_eq (Nat.zero_add _)) rfl rfl (by simp [oneSlot]) (Nat.le_of_ble_eq_true rfl) (Ct.mono (p_back (Γ := Γ) (l := l) (d := 0)  h ).pa ?_)
  rintro o h' ⟨v, g1, ⟨rfl, rfl⟩, ha⟩
  show AW Γ l mL_law_ 60 b 2505 [vR 4000, vR 1, vR 171, vR 190, vI i, vU, vU] [vI v] (stt g1) K
  refine aw_aload_n (k' := 2) (by decide +kernel) rfl ?_
  refine aw_callV (y := yX12_back) (M2 := mX12_back) (as := []) (S := [vI v]) (idx := 281) (t := 171) (d2 := 0) (b2 := 0) (b3 := b) cwX12_back (tb_mem 1440 (by decide +kernel) (by decide +kernel)) imX12_back seX12_back (by decide +kernel) rfl (ci := 10) rfl (OB.at (ci := 10) (show shp 171 = (20, 0) by decide +kernel) (by decide)) (by decide) (Nat.le_of_eq (Nat.zero_add _)) rfl rfl (by simp [oneSlot]) (Nat.le_of_ble_eq_true rfl) (Ct.mono (ha g1 (fun b9 g3 => b9 = v ∧ Rel9 g3) (fun _ _ _ => rfl) (fun g3 r f => ⟨rfl, r⟩)) ?_)
  rintro o h' ⟨b9, g3, ⟨rfl, rfl⟩, e9, r3⟩
  show AW Γ l mL_law_ 60 b 2509 [vR 4000, vR 1, vR 171, vR 190, vI i, vU, vU] [vI b9, vI v] (stt g3) K
  rw [e9]
  refine ax_icmp_eq (off := 30) (tgt := 2539) (x' := wr v) (y' := wr v) (by decide +kernel) (by decide) rfl rfl (fun hc8 => ?_) (fun hc8 => absurd rfl hc8)
  exact next g3 _ (by omega) r3
set_option maxHeartbeats 1000000 in
theorem lc_43 {Γ : Cfg} {l : Launch} {b : Nat} {i : Int} {g : GG} {K : Ou → HP → Prop} (hi : 0 ≤ i ∧ i + 6 ≤ (Γ.2.2.2.2.1 : Int)) (hN : Γ.2.2.2.2.1 ≤ 3072) (h : Rel9 g) (hb : 8 ≤ b) (next : ∀ (g' : GG) (b' : Nat), b - 4 ≤ b' → Rel9 g' → AW Γ l mL_law_ 60 b' 2539 [vR 4000, vR 1, vR 171, vR 190, vI i, vU, vU] [] (stt g') K) : AW Γ l mL_law_ 60 b 2514 [vR 4000, vR 1, vR 171, vR 190, vI i, vU, vU] [] (stt g) K := by
  refine aw_aload_n (k' := 1) (by decide +kernel) rfl ?_
  refine aw_aload_n (k' := 0) (by decide +kernel) rfl ?_
  refine aw_iload (i := 4) (by decide +kernel) rfl ?_
  refine aw_iconst (n := 1) (by decide +kernel) ?_
  refine aw_iadd (by decide +kernel) ?_
  refine aw_sld (x' := i + 1) (by decide +kernel) (wr_id (by omega) (by omega)) (by omega) ?_
  refine aw_callV (y := yX11_count) (M2 := mX11_count) (as := [vI (SC Γ (i + 1))]) (S := []) (idx := 282) (t := 1) (d2 := 0 + 2) (b2 := 0) (b3 := b) cwX11_count (tb_mem 555 (by decide +kernel) (by decide +kernel)) imX11_count seX11_count (by decide +kernel) rfl (ci := 9) rfl (OB.at (ci := 9) (show shp 1 = (19, 0) by decide +kernel) (by decide)) (by decide) (Nat.le_of_eq (Nat.zero_add _)) rfl rfl (by simp [oneSlot]) (Nat.le_of_ble_eq_true rfl) (Ct.mono (p_count (Γ := Γ) (l := l) (d := 0) (w := SC Γ (i + 1)) h (wr_SC _)).pa ?_)
  rintro o h' ⟨v, g1, ⟨rfl, rfl⟩, ha⟩
  show AW Γ l mL_law_ 60 b 2524 [vR 4000, vR 1, vR 171, vR 190, vI i, vU, vU] [vI v] (stt g1) K
  refine aw_aload_n (k' := 2) (by decide +kernel) rfl ?_
  refine aw_aload_n (k' := 0) (by decide +kernel) rfl ?_
  refine aw_iload (i := 4) (by decide +kernel) rfl ?_
  refine aw_iconst (n := 1) (by decide +kernel) ?_
  refine aw_iadd (by decide +kernel) ?_
  refine aw_sld (x' := i + 1) (by decide +kernel) (wr_id (by omega) (by omega)) (by omega) ?_
  refine aw_callV (y := yX12_count) (M2 := mX12_count) (as := [vI (SC Γ (i + 1))]) (S := [vI v]) (idx := 285) (t := 171) (d2 := 0 + 3) (b2 := 0) (b3 := b) cwX12_count (tb_mem 2022 (by decide +kernel) (by decide +kernel)) imX12_count seX12_count (by decide +kernel) rfl (ci := 10) rfl (OB.at (ci := 10) (show shp 171 = (20, 0) by decide +kernel) (by decide)) (by decide) (Nat.le_of_eq (Nat.zero_add _)) rfl rfl (by simp [oneSlot]) (Nat.le_of_ble_eq_true rfl) (Ct.mono (ha g1 (fun b9 g3 => b9 = v ∧ Rel9 g3) (fun _ _ _ => rfl) (fun g3 r f => ⟨rfl, r⟩)) ?_)
  rintro o h' ⟨b9, g3, ⟨rfl, rfl⟩, e9, r3⟩
  show AW Γ l mL_law_ 60 b 2534 [vR 4000, vR 1, vR 171, vR 190, vI i, vU, vU] [vI b9, vI v] (stt g3) K
  rw [e9]
  refine ax_icmp_eq (off := 5) (tgt := 2539) (x' := wr v) (y' := wr v) (by decide +kernel) (by decide) rfl rfl (fun hc8 => ?_) (fun hc8 => absurd rfl hc8)
  exact next g3 _ (by omega) r3
