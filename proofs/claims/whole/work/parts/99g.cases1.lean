/-! THE LAW'S CASES, walked (genL.py), part 1 -/
set_option maxHeartbeats 1000000 in
theorem lc_0 {Γ : Cfg} {l : Launch} {b : Nat} {i : Int} {g : GG} {K : Ou → HP → Prop} (hi : 0 ≤ i ∧ i + 6 ≤ (Γ.2.2.2.2.1 : Int)) (hN : Γ.2.2.2.2.1 ≤ 3072) (h : Rel9 g) (hb : 8 ≤ b) (next : ∀ (g' : GG) (b' : Nat), b - 4 ≤ b' → Rel9 g' → AW Γ l mL_law_ 60 b' 2539 [vR 4000, vR 1, vR 171, vR 190, vI i, vU, vU] [] (stt g') K) : AW Γ l mL_law_ 60 b 232 [vR 4000, vR 1, vR 171, vR 190, vI i, vU, vU] [] (stt g) K := by
  refine aw_aload_n (k' := 1) (by decide +kernel) rfl ?_
  refine aw_aload_n (k' := 0) (by decide +kernel) rfl ?_
  refine aw_iload (i := 4) (by decide +kernel) rfl ?_
  refine aw_iconst (n := 1) (by decide +kernel) ?_
  refine aw_iadd (by decide +kernel) ?_
  refine aw_sld (x' := i + 1) (by decide +kernel) (wr_id (by omega) (by omega)) (by omega) ?_
  refine aw_aload_n (k' := 0) (by decide +kernel) rfl ?_
  refine aw_iload (i := 4) (by decide +kernel) rfl ?_
  refine aw_iconst (n := 2) (by decide +kernel) ?_
  refine aw_iadd (by decide +kernel) ?_
  refine aw_sld (x' := i + 2) (by decide +kernel) (wr_id (by omega) (by omega)) (by omega) ?_
  refine aw_aload_n (k' := 0) (by decide +kernel) rfl ?_
  refine aw_iload (i := 4) (by decide +kernel) rfl ?_
  refine aw_iconst (n := 3) (by decide +kernel) ?_
  refine aw_iadd (by decide +kernel) ?_
  refine aw_sld (x' := i + 3) (by decide +kernel) (wr_id (by omega) (by omega)) (by omega) ?_
  refine aw_aload_n (k' := 0) (by decide +kernel) rfl ?_
  refine aw_iload (i := 4) (by decide +kernel) rfl ?_
  refine aw_iconst (n := 4) (by decide +kernel) ?_
  refine aw_iadd (by decide +kernel) ?_
  refine aw_sld (x' := i + 4) (by decide +kernel) (wr_id (by omega) (by omega)) (by omega) ?_
  refine aw_aload_n (k' := 0) (by decide +kernel) rfl ?_
  refine aw_iload (i := 4) (by decide +kernel) rfl ?_
  refine aw_iconst (n := 5) (by decide +kernel) ?_
  refine aw_iadd (by decide +kernel) ?_
  refine aw_sld (x' := i + 5) (by decide +kernel) (wr_id (by omega) (by omega)) (by omega) ?_
  refine aw_callV (y := yX11_feed) (M2 := mX11_feed) (as := [vI (SC Γ (i + 1)), vI (SC Γ (i + 2)), vI (SC Γ (i + 3)), vI (SC Γ (i + 4)), vI (SC Γ (i + 5))]) (S := []) (idx := 130) (t := 1) (d2 := 0 + 2) (b2 := 0) (b3 := b) cwX11_feed (tb_mem 396 (by decide +kernel) (by decide +kernel)) imX11_feed seX11_feed (by decide +kernel) rfl (ci := 9) rfl (OB.at (ci := 9) (show shp 1 = (19, 0) by decide +kernel) (by decide)) (by decide) (Nat.le_of_eq (Nat.zero_add _)) rfl rfl (by simp [oneSlot]) (Nat.le_of_ble_eq_true rfl) (Ct.mono (p_feed (Γ := Γ) (l := l) (d := 0) (x1 := SC Γ (i + 1)) (x2 := SC Γ (i + 2)) (x3 := SC Γ (i + 3)) (x4 := SC Γ (i + 4)) (x5 := SC Γ (i + 5)) h ).pa ?_)
  rintro o h' ⟨v, g1, ⟨rfl, rfl⟩, ha⟩
  show AW Γ l mL_law_ 60 b 266 [vR 4000, vR 1, vR 171, vR 190, vI i, vU, vU] [vI v] (stt g1) K
  refine aw_aload_n (k' := 2) (by decide +kernel) rfl ?_
  refine aw_aload_n (k' := 0) (by decide +kernel) rfl ?_
  refine aw_iload (i := 4) (by decide +kernel) rfl ?_
  refine aw_iconst (n := 1) (by decide +kernel) ?_
  refine aw_iadd (by decide +kernel) ?_
  refine aw_sld (x' := i + 1) (by decide +kernel) (wr_id (by omega) (by omega)) (by omega) ?_
  refine aw_aload_n (k' := 0) (by decide +kernel) rfl ?_
  refine aw_iload (i := 4) (by decide +kernel) rfl ?_
  refine aw_iconst (n := 2) (by decide +kernel) ?_
  refine aw_iadd (by decide +kernel) ?_
  refine aw_sld (x' := i + 2) (by decide +kernel) (wr_id (by omega) (by omega)) (by omega) ?_
  refine aw_aload_n (k' := 0) (by decide +kernel) rfl ?_
  refine aw_iload (i := 4) (by decide +kernel) rfl ?_
  refine aw_iconst (n := 3) (by decide +kernel) ?_
  refine aw_iadd (by decide +kernel) ?_
  refine aw_sld (x' := i + 3) (by decide +kernel) (wr_id (by omega) (by omega)) (by omega) ?_
  refine aw_aload_n (k' := 0) (by decide +kernel) rfl ?_
  refine aw_iload (i := 4) (by decide +kernel) rfl ?_
  refine aw_iconst (n := 4) (by decide +kernel) ?_
  refine aw_iadd (by decide +kernel) ?_
  refine aw_sld (x' := i + 4) (by decide +kernel) (wr_id (by omega) (by omega)) (by omega) ?_
  refine aw_aload_n (k' := 0) (by decide +kernel) rfl ?_
  refine aw_iload (i := 4) (by decide +kernel) rfl ?_
  refine aw_iconst (n := 5) (by decide +kernel) ?_
  refine aw_iadd (by decide +kernel) ?_
  refine aw_sld (x' := i + 5) (by decide +kernel) (wr_id (by omega) (by omega)) (by omega) ?_
  refine aw_callV (y := yX12_feed) (M2 := mX12_feed) (as := [vI (SC Γ (i + 1)), vI (SC Γ (i + 2)), vI (SC Γ (i + 3)), vI (SC Γ (i + 4)), vI (SC Γ (i + 5))]) (S := [vI v]) (idx := 134) (t := 171) (d2 := 0) (b2 := 0) (b3 := b) cwX12_feed (tb_mem 1448 (by decide +kernel) (by decide +kernel)) imX12_feed seX12_feed (by decide +kernel) rfl (ci := 10) rfl (OB.at (ci := 10) (show shp 171 = (20, 0) by decide +kernel) (by decide)) (by decide) (Nat.le_of_eq (Nat.zero_add _)) rfl rfl (by simp [oneSlot]) (Nat.le_of_ble_eq_true rfl) (Ct.mono (ha g1 (fun b9 g3 => b9 = v ∧ Rel9 g3) (fun _ _ _ => rfl) (fun g3 r f => ⟨rfl, r⟩)) ?_)
  rintro o h' ⟨b9, g3, ⟨rfl, rfl⟩, e9, r3⟩
  show AW Γ l mL_law_ 60 b 300 [vR 4000, vR 1, vR 171, vR 190, vI i, vU, vU] [vI b9, vI v] (stt g3) K
  rw [e9]
  refine ax_icmp_eq (off := 2239) (tgt := 2539) (x' := wr v) (y' := wr v) (by decide +kernel) (by decide) rfl rfl (fun hc8 => ?_) (fun hc8 => absurd rfl hc8)
  exact next g3 _ (by omega) r3
set_option maxHeartbeats 1000000 in
theorem lc_1 {Γ : Cfg} {l : Launch} {b : Nat} {i : Int} {g : GG} {K : Ou → HP → Prop} (hi : 0 ≤ i ∧ i + 6 ≤ (Γ.2.2.2.2.1 : Int)) (hN : Γ.2.2.2.2.1 ≤ 3072) (h : Rel9 g) (hb : 8 ≤ b) (next : ∀ (g' : GG) (b' : Nat), b - 4 ≤ b' → Rel9 g' → AW Γ l mL_law_ 60 b' 2539 [vR 4000, vR 1, vR 171, vR 190, vI i, vU, vU] [] (stt g') K) : AW Γ l mL_law_ 60 b 305 [vR 4000, vR 1, vR 171, vR 190, vI i, vU, vU] [] (stt g) K := by
  refine aw_aload_n (k' := 1) (by decide +kernel) rfl ?_
  refine aw_aload_n (k' := 0) (by decide +kernel) rfl ?_
  refine aw_iload (i := 4) (by decide +kernel) rfl ?_
  refine aw_iconst (n := 1) (by decide +kernel) ?_
  refine aw_iadd (by decide +kernel) ?_
  refine aw_sld (x' := i + 1) (by decide +kernel) (wr_id (by omega) (by omega)) (by omega) ?_
  refine aw_callV (y := yX11_end) (M2 := mX11_end) (as := [vI (SC Γ (i + 1))]) (S := []) (idx := 135) (t := 1) (d2 := 0) (b2 := 0) (b3 := b) cwX11_end (tb_mem 407 (by decide +kernel) (by decide +kernel)) imX11_end seX11_end (by decide +kernel) rfl (ci := 9) rfl (OB.at (ci := 9) (show shp 1 = (19, 0) by decide +kernel) (by decide)) (by decide) (Nat.le_of_eq (Nat.zero_add _)) rfl rfl (by simp [oneSlot]) (Nat.le_of_ble_eq_true rfl) (Ct.mono (p_end (Γ := Γ) (l := l) (d := 0) (n := SC Γ (i + 1)) h (wr_SC _)).pa ?_)
  rintro o h' ⟨v, g1, ⟨rfl, rfl⟩, ha⟩
  show AW Γ l mL_law_ 60 b 315 [vR 4000, vR 1, vR 171, vR 190, vI i, vU, vU] [vI v] (stt g1) K
  refine aw_aload_n (k' := 2) (by decide +kernel) rfl ?_
  refine aw_aload_n (k' := 0) (by decide +kernel) rfl ?_
  refine aw_iload (i := 4) (by decide +kernel) rfl ?_
  refine aw_iconst (n := 1) (by decide +kernel) ?_
  refine aw_iadd (by decide +kernel) ?_
  refine aw_sld (x' := i + 1) (by decide +kernel) (wr_id (by omega) (by omega)) (by omega) ?_
  refine aw_callV (y := yX12_end) (M2 := mX12_end) (as := [vI (SC Γ (i + 1))]) (S := [vI v]) (idx := 138) (t := 171) (d2 := 0) (b2 := 0) (b3 := b) cwX12_end (tb_mem 1452 (by decide +kernel) (by decide +kernel)) imX12_end seX12_end (by decide +kernel) rfl (ci := 10) rfl (OB.at (ci := 10) (show shp 171 = (20, 0) by decide +kernel) (by decide)) (by decide) (Nat.le_of_eq (Nat.zero_add _)) rfl rfl (by simp [oneSlot]) (Nat.le_of_ble_eq_true rfl) (Ct.mono (ha g1 (fun b9 g3 => b9 = v ∧ Rel9 g3) (fun _ _ _ => rfl) (fun g3 r f => ⟨rfl, r⟩)) ?_)
  rintro o h' ⟨b9, g3, ⟨rfl, rfl⟩, e9, r3⟩
  show AW Γ l mL_law_ 60 b 325 [vR 4000, vR 1, vR 171, vR 190, vI i, vU, vU] [vI b9, vI v] (stt g3) K
  rw [e9]
  refine ax_icmp_eq (off := 2214) (tgt := 2539) (x' := wr v) (y' := wr v) (by decide +kernel) (by decide) rfl rfl (fun hc8 => ?_) (fun hc8 => absurd rfl hc8)
  exact next g3 _ (by omega) r3
set_option maxHeartbeats 1000000 in
theorem lc_2 {Γ : Cfg} {l : Launch} {b : Nat} {i : Int} {g : GG} {K : Ou → HP → Prop} (hi : 0 ≤ i ∧ i + 6 ≤ (Γ.2.2.2.2.1 : Int)) (hN : Γ.2.2.2.2.1 ≤ 3072) (h : Rel9 g) (hb : 8 ≤ b) (next : ∀ (g' : GG) (b' : Nat), b - 4 ≤ b' → Rel9 g' → AW Γ l mL_law_ 60 b' 2539 [vR 4000, vR 1, vR 171, vR 190, vI i, vU, vU] [] (stt g') K) : AW Γ l mL_law_ 60 b 330 [vR 4000, vR 1, vR 171, vR 190, vI i, vU, vU] [] (stt g) K := by
  refine aw_aload_n (k' := 1) (by decide +kernel) rfl ?_
  refine aw_aload_n (k' := 3) (by decide +kernel) rfl ?_
  have T : ∀ (c v : Int) (g1 g2 : GG), PA [eIA, eUO] (fun g2 K => Ct Γ l (0 + 12) 0 yX12_hills mX12_hills [vR 171] (stt g2) K) c v g1 → lo9 g1 g2 → (c = 0 → g2 190 0 = wr v) → AW Γ l mL_law_ 60 (b - 1) 335 [vR 4000, vR 1, vR 171, vR 190, vI i, vU, vU] [vI c] (stt g2) K := by
    intro c v g1 g2 ha hlo h190
    refine aw_istore (i := 5) (by decide +kernel) (by decide) ?_
    show AW Γ l mL_law_ 60 (b - 1) 337 [vR 4000, vR 1, vR 171, vR 190, vI i, vI c, vU] [] (stt g2) K
    refine aw_aload_n (k' := 2) (by decide +kernel) rfl ?_
    refine aw_callV (y := yX12_hills) (M2 := mX12_hills) (as := []) (S := []) (idx := 144) (t := 171) (d2 := 0 + 12) (b2 := 0) (b3 := (b - 1)) cwX12_hills (tb_mem 1460 (by decide +kernel) (by decide +kernel)) imX12_hills seX12_hills (by decide +kernel) rfl (ci := 10) rfl (OB.at (ci := 10) (show shp 171 = (20, 0) by decide +kernel) (by decide)) (by decide) (Nat.le_of_eq (Nat.zero_add _)) rfl rfl (by simp [oneSlot]) (Nat.le_of_ble_eq_true rfl) (Ct.mono (ha.2 g2 (fun b9 g3 => Rel9 g3 ∧ g3 171 0 = c ∧ (c = 0 → b9 = v) ∧ g3 190 0 = g2 190 0) hlo (fun b9 g3 r z e f => ⟨r, z, e, f 0⟩)) ?_)
    rintro o h' ⟨b9, g3, ⟨rfl, rfl⟩, r3, z3, e3, f3⟩
    show AW Γ l mL_law_ 60 (b - 1) 341 [vR 4000, vR 1, vR 171, vR 190, vI i, vI c, vU] [vI b9] (stt g3) K
    refine aw_istore (i := 6) (by decide +kernel) (by decide) ?_
    show AW Γ l mL_law_ 60 (b - 1) 343 [vR 4000, vR 1, vR 171, vR 190, vI i, vI c, vI b9] [] (stt g3) K
    refine aw_aload_n (k' := 2) (by decide +kernel) rfl ?_
    refine aw_callV (y := yX12_thrown) (M2 := mX12_thrown) (as := []) (S := []) (idx := 145) (t := 171) (d2 := 0) (b2 := 0) (b3 := (b - 1)) cwX12_thrown (tb_mem 1322 (by decide +kernel) (by decide +kernel)) imX12_thrown seX12_thrown (by decide +kernel) rfl (ci := 10) rfl (OB.at (ci := 10) (show shp 171 = (20, 0) by decide +kernel) (by decide)) (by decide) (Nat.le_of_eq (Nat.zero_add _)) rfl rfl (by simp [oneSlot]) (Nat.le_of_ble_eq_true rfl) (wpX12_thrown ?_)
    show AW Γ l mL_law_ 60 (b - 1) 347 [vR 4000, vR 1, vR 171, vR 190, vI i, vI c, vI b9] [vI (g3 171 0)] (stt g3) K
    refine aw_iload (i := 5) (by decide +kernel) rfl ?_
    refine ax_icmp_eq (off := 5) (tgt := 354) (x' := wr (g3 171 0)) (y' := wr c) (by decide +kernel) (by decide) rfl rfl (fun hc8 => ?_) (fun hc8 => absurd (by rw [z3]) hc8)
    refine aw_iload (i := 5) (by decide +kernel) rfl ?_
    refine ax_if_ne (off := 15) (tgt := 371) (x' := wr c) (by decide +kernel) (by decide) rfl (fun hc7 => ?_) (fun hc7 => ?_)
    · skip
      refine aw_goto (off := 2168) (tgt := 2539) (by decide +kernel) (by decide) ?_
      exact AW.locals (next g3 _ (by omega) r3) drop7
    · have hcr : 0 ≤ c ∧ c ≤ 2 := ha.1
      have hc0 : c = 0 := by have := wr_id (x := c) (by omega) (by omega); omega
      refine aw_aload_n (k' := 3) (by decide +kernel) rfl ?_
      refine aw_iconst (n := 0) (by decide +kernel) ?_
      refine aw_lald (t := 190) (j := 0) (n := 1) (by decide +kernel) (isA_lit (show shp 190 = (3, 1) by decide +kernel) (by decide)) (by decide +kernel) (by decide +kernel) ?_
      rw [wr_0]
      refine aw_iload (i := 6) (by decide +kernel) rfl ?_
      refine aw_i2l (by decide +kernel) ?_
      refine aw_lcmp (by decide +kernel) ?_
      have e0 : lCmp (g3 190 0) (wr b9) = 0 := by rw [f3, h190 hc0, e3 hc0]; exact lCmp_self _
      rw [e0]
      refine ax_if_eq (off := 5) (tgt := 371) (x' := 0) (by decide +kernel) (by decide) (by decide +kernel) (fun _ => ?_) (fun hc5 => absurd rfl hc5)
      refine aw_goto (off := 2168) (tgt := 2539) (by decide +kernel) (by decide) ?_
      exact AW.locals (next g3 _ (by omega) r3) drop7
  refine aw_callSH (y := yL_hills) (M2 := mL_hills) (as := [vR 1, vR 190]) (S := []) (idx := 139) (d2 := 0 + 9 + 1) (b2 := 1) (b3 := (b - 1)) cwL_hills (tb_mem 563 (by decide +kernel) (by decide +kernel)) stL_hills (by decide +kernel) rfl (by decide) (by omega) rfl rfl (by simp [oneSlot]) (Nat.le_of_ble_eq_true rfl) (w_hills (d2 := 0 + 9) (Nat.le_refl _) (fun c v g1 ha => ha.1) (p_hills (Γ := Γ) (l := l) (d := 0)  h ).pa (fun v g1 ha => T 0 v g1 _ ha lo9_out (fun _ => upd2_eq)) (fun c v g1 ha hc9 => T c v g1 g1 ha (fun _ _ _ => rfl) (fun z => absurd z (by omega))))
set_option maxHeartbeats 1000000 in
theorem lc_3 {Γ : Cfg} {l : Launch} {b : Nat} {i : Int} {g : GG} {K : Ou → HP → Prop} (hi : 0 ≤ i ∧ i + 6 ≤ (Γ.2.2.2.2.1 : Int)) (hN : Γ.2.2.2.2.1 ≤ 3072) (h : Rel9 g) (hb : 8 ≤ b) (next : ∀ (g' : GG) (b' : Nat), b - 4 ≤ b' → Rel9 g' → AW Γ l mL_law_ 60 b' 2539 [vR 4000, vR 1, vR 171, vR 190, vI i, vU, vU] [] (stt g') K) : AW Γ l mL_law_ 60 b 374 [vR 4000, vR 1, vR 171, vR 190, vI i, vU, vU] [] (stt g) K := by
  refine aw_aload_n (k' := 1) (by decide +kernel) rfl ?_
  refine aw_aload_n (k' := 3) (by decide +kernel) rfl ?_
  have T : ∀ (c v : Int) (g1 g2 : GG), PA [eIA] (fun g2 K => Ct Γ l (0 + 32) 0 yX12_law mX12_law [vR 171] (stt g2) K) c v g1 → lo9 g1 g2 → (c = 0 → g2 190 0 = wr v) → AW Γ l mL_law_ 60 (b - 1) 379 [vR 4000, vR 1, vR 171, vR 190, vI i, vU, vU] [vI c] (stt g2) K := by
    intro c v g1 g2 ha hlo h190
    refine aw_istore (i := 5) (by decide +kernel) (by decide) ?_
    show AW Γ l mL_law_ 60 (b - 1) 381 [vR 4000, vR 1, vR 171, vR 190, vI i, vI c, vU] [] (stt g2) K
    refine aw_aload_n (k' := 2) (by decide +kernel) rfl ?_
    refine aw_callV (y := yX12_law) (M2 := mX12_law) (as := []) (S := []) (idx := 150) (t := 171) (d2 := 0 + 32) (b2 := 0) (b3 := (b - 1)) cwX12_law (tb_mem 1626 (by decide +kernel) (by decide +kernel)) imX12_law seX12_law (by decide +kernel) rfl (ci := 10) rfl (OB.at (ci := 10) (show shp 171 = (20, 0) by decide +kernel) (by decide)) (by decide) (Nat.le_of_eq (Nat.zero_add _)) rfl rfl (by simp [oneSlot]) (Nat.le_of_ble_eq_true rfl) (Ct.mono (ha.2 g2 (fun b9 g3 => Rel9 g3 ∧ g3 171 0 = c ∧ (c = 0 → b9 = v) ∧ g3 190 0 = g2 190 0) hlo (fun b9 g3 r z e f => ⟨r, z, e, f 0⟩)) ?_)
    rintro o h' ⟨b9, g3, ⟨rfl, rfl⟩, r3, z3, e3, f3⟩
    show AW Γ l mL_law_ 60 (b - 1) 385 [vR 4000, vR 1, vR 171, vR 190, vI i, vI c, vU] [vI b9] (stt g3) K
    refine aw_istore (i := 6) (by decide +kernel) (by decide) ?_
    show AW Γ l mL_law_ 60 (b - 1) 387 [vR 4000, vR 1, vR 171, vR 190, vI i, vI c, vI b9] [] (stt g3) K
    refine aw_aload_n (k' := 2) (by decide +kernel) rfl ?_
    refine aw_callV (y := yX12_thrown) (M2 := mX12_thrown) (as := []) (S := []) (idx := 145) (t := 171) (d2 := 0) (b2 := 0) (b3 := (b - 1)) cwX12_thrown (tb_mem 1322 (by decide +kernel) (by decide +kernel)) imX12_thrown seX12_thrown (by decide +kernel) rfl (ci := 10) rfl (OB.at (ci := 10) (show shp 171 = (20, 0) by decide +kernel) (by decide)) (by decide) (Nat.le_of_eq (Nat.zero_add _)) rfl rfl (by simp [oneSlot]) (Nat.le_of_ble_eq_true rfl) (wpX12_thrown ?_)
    show AW Γ l mL_law_ 60 (b - 1) 391 [vR 4000, vR 1, vR 171, vR 190, vI i, vI c, vI b9] [vI (g3 171 0)] (stt g3) K
    refine aw_iload (i := 5) (by decide +kernel) rfl ?_
    refine ax_icmp_eq (off := 5) (tgt := 398) (x' := wr (g3 171 0)) (y' := wr c) (by decide +kernel) (by decide) rfl rfl (fun hc8 => ?_) (fun hc8 => absurd (by rw [z3]) hc8)
    refine aw_iload (i := 5) (by decide +kernel) rfl ?_
    refine ax_if_ne (off := 15) (tgt := 415) (x' := wr c) (by decide +kernel) (by decide) rfl (fun hc7 => ?_) (fun hc7 => ?_)
    · skip
      refine aw_goto (off := 2124) (tgt := 2539) (by decide +kernel) (by decide) ?_
      exact AW.locals (next g3 _ (by omega) r3) drop7
    · have hcr : 0 ≤ c ∧ c ≤ 1 := ha.1
      have hc0 : c = 0 := by have := wr_id (x := c) (by omega) (by omega); omega
      refine aw_aload_n (k' := 3) (by decide +kernel) rfl ?_
      refine aw_iconst (n := 0) (by decide +kernel) ?_
      refine aw_lald (t := 190) (j := 0) (n := 1) (by decide +kernel) (isA_lit (show shp 190 = (3, 1) by decide +kernel) (by decide)) (by decide +kernel) (by decide +kernel) ?_
      rw [wr_0]
      refine aw_iload (i := 6) (by decide +kernel) rfl ?_
      refine aw_i2l (by decide +kernel) ?_
      refine aw_lcmp (by decide +kernel) ?_
      have e0 : lCmp (g3 190 0) (wr b9) = 0 := by rw [f3, h190 hc0, e3 hc0]; exact lCmp_self _
      rw [e0]
      refine ax_if_eq (off := 5) (tgt := 415) (x' := 0) (by decide +kernel) (by decide) (by decide +kernel) (fun _ => ?_) (fun hc5 => absurd rfl hc5)
      refine aw_goto (off := 2124) (tgt := 2539) (by decide +kernel) (by decide) ?_
      exact AW.locals (next g3 _ (by omega) r3) drop7
  refine aw_callSH (y := yL_law) (M2 := mL_law) (as := [vR 1, vR 190]) (S := []) (idx := 148) (d2 := 0 + 26 + 1) (b2 := 1) (b3 := (b - 1)) cwL_law (tb_mem 804 (by decide +kernel) (by decide +kernel)) stL_law (by decide +kernel) rfl (by decide) (by omega) rfl rfl (by simp [oneSlot]) (Nat.le_of_ble_eq_true rfl) (w_law (d2 := 0 + 26) (Nat.le_refl _) (fun c v g1 ha => ha.1) (p_law (Γ := Γ) (l := l) (d := 0)  h ).pa (fun v g1 ha => T 0 v g1 _ ha lo9_out (fun _ => upd2_eq)) (fun c v g1 ha hc9 => T c v g1 g1 ha (fun _ _ _ => rfl) (fun z => absurd z (by omega))))
set_option maxHeartbeats 1000000 in
theorem lc_4 {Γ : Cfg} {l : Launch} {b : Nat} {i : Int} {g : GG} {K : Ou → HP → Prop} (hi : 0 ≤ i ∧ i + 6 ≤ (Γ.2.2.2.2.1 : Int)) (hN : Γ.2.2.2.2.1 ≤ 3072) (h : Rel9 g) (hb : 8 ≤ b) (next : ∀ (g' : GG) (b' : Nat), b - 4 ≤ b' → Rel9 g' → AW Γ l mL_law_ 60 b' 2539 [vR 4000, vR 1, vR 171, vR 190, vI i, vU, vU] [] (stt g') K) : AW Γ l mL_law_ 60 b 418 [vR 4000, vR 1, vR 171, vR 190, vI i, vU, vU] [] (stt g) K := by
  refine aw_aload_n (k' := 1) (by decide +kernel) rfl ?_
  refine aw_callV (y := yX11_fault) (M2 := mX11_fault) (as := []) (S := []) (idx := 151) (t := 1) (d2 := 0) (b2 := 0) (b3 := b) cwX11_fault (tb_mem 411 (by decide +kernel) (by decide +kernel)) imX11_fault seX11_fault (by decide +kernel) rfl (ci := 9) rfl (OB.at (ci := 9) (show shp 1 = (19, 0) by decide +kernel) (by decide)) (by decide) (Nat.le_of_eq (Nat.zero_add _)) rfl rfl (by simp [oneSlot]) (Nat.le_of_ble_eq_true rfl) (Ct.mono (p_fault (Γ := Γ) (l := l) (d := 0)  h ).pa ?_)
  rintro o h' ⟨v, g1, ⟨rfl, rfl⟩, ha⟩
  show AW Γ l mL_law_ 60 b 422 [vR 4000, vR 1, vR 171, vR 190, vI i, vU, vU] [vI v] (stt g1) K
  refine aw_aload_n (k' := 2) (by decide +kernel) rfl ?_
  refine aw_callV (y := yX12_fault) (M2 := mX12_fault) (as := []) (S := [vI v]) (idx := 154) (t := 171) (d2 := 0) (b2 := 0) (b3 := b) cwX12_fault (tb_mem 1456 (by decide +kernel) (by decide +kernel)) imX12_fault seX12_fault (by decide +kernel) rfl (ci := 10) rfl (OB.at (ci := 10) (show shp 171 = (20, 0) by decide +kernel) (by decide)) (by decide) (Nat.le_of_eq (Nat.zero_add _)) rfl rfl (by simp [oneSlot]) (Nat.le_of_ble_eq_true rfl) (Ct.mono (ha g1 (fun b9 g3 => b9 = v ∧ Rel9 g3) (fun _ _ _ => rfl) (fun g3 r f => ⟨rfl, r⟩)) ?_)
  rintro o h' ⟨b9, g3, ⟨rfl, rfl⟩, e9, r3⟩
  show AW Γ l mL_law_ 60 b 426 [vR 4000, vR 1, vR 171, vR 190, vI i, vU, vU] [vI b9, vI v] (stt g3) K
  rw [e9]
  refine ax_icmp_eq (off := 2113) (tgt := 2539) (x' := wr v) (y' := wr v) (by decide +kernel) (by decide) rfl rfl (fun hc8 => ?_) (fun hc8 => absurd rfl hc8)
  exact next g3 _ (by omega) r3
set_option maxHeartbeats 1000000 in
theorem lc_5 {Γ : Cfg} {l : Launch} {b : Nat} {i : Int} {g : GG} {K : Ou → HP → Prop} (hi : 0 ≤ i ∧ i + 6 ≤ (Γ.2.2.2.2.1 : Int)) (hN : Γ.2.2.2.2.1 ≤ 3072) (h : Rel9 g) (hb : 8 ≤ b) (next : ∀ (g' : GG) (b' : Nat), b - 4 ≤ b' → Rel9 g' → AW Γ l mL_law_ 60 b' 2539 [vR 4000, vR 1, vR 171, vR 190, vI i, vU, vU] [] (stt g') K) : AW Γ l mL_law_ 60 b 431 [vR 4000, vR 1, vR 171, vR 190, vI i, vU, vU] [] (stt g) K := by
  refine aw_aload_n (k' := 1) (by decide +kernel) rfl ?_
  refine aw_aload_n (k' := 0) (by decide +kernel) rfl ?_
  refine aw_iload (i := 4) (by decide +kernel) rfl ?_
  refine aw_iconst (n := 1) (by decide +kernel) ?_
  refine aw_iadd (by decide +kernel) ?_
  refine aw_sld (x' := i + 1) (by decide +kernel) (wr_id (by omega) (by omega)) (by omega) ?_
  refine aw_aload_n (k' := 0) (by decide +kernel) rfl ?_
  refine aw_iload (i := 4) (by decide +kernel) rfl ?_
  refine aw_iconst (n := 2) (by decide +kernel) ?_
  refine aw_iadd (by decide +kernel) ?_
  refine aw_sld (x' := i + 2) (by decide +kernel) (wr_id (by omega) (by omega)) (by omega) ?_
  refine aw_aload_n (k' := 3) (by decide +kernel) rfl ?_
  have T : ∀ (c v : Int) (g1 g2 : GG), PA [eIO, eNS] (fun g2 K => Ct Γ l (0 + 9) 0 yX12_person mX12_person [vR 171, vI (SC Γ (i + 1)), vI (SC Γ (i + 2))] (stt g2) K) c v g1 → lo9 g1 g2 → (c = 0 → g2 190 0 = wr v) → AW Γ l mL_law_ 60 (b - 2) 448 [vR 4000, vR 1, vR 171, vR 190, vI i, vU, vU] [vI c] (stt g2) K := by
    intro c v g1 g2 ha hlo h190
    refine aw_istore (i := 5) (by decide +kernel) (by decide) ?_
    show AW Γ l mL_law_ 60 (b - 2) 450 [vR 4000, vR 1, vR 171, vR 190, vI i, vI c, vU] [] (stt g2) K
    refine aw_aload_n (k' := 2) (by decide +kernel) rfl ?_
    refine aw_aload_n (k' := 0) (by decide +kernel) rfl ?_
    refine aw_iload (i := 4) (by decide +kernel) rfl ?_
    refine aw_iconst (n := 1) (by decide +kernel) ?_
    refine aw_iadd (by decide +kernel) ?_
    refine aw_sld (x' := i + 1) (by decide +kernel) (wr_id (by omega) (by omega)) (by omega) ?_
    refine aw_aload_n (k' := 0) (by decide +kernel) rfl ?_
    refine aw_iload (i := 4) (by decide +kernel) rfl ?_
    refine aw_iconst (n := 2) (by decide +kernel) ?_
    refine aw_iadd (by decide +kernel) ?_
    refine aw_sld (x' := i + 2) (by decide +kernel) (wr_id (by omega) (by omega)) (by omega) ?_
    refine aw_callV (y := yX12_person) (M2 := mX12_person) (as := [vI (SC Γ (i + 1)), vI (SC Γ (i + 2))]) (S := []) (idx := 158) (t := 171) (d2 := 0 + 9) (b2 := 0) (b3 := (b - 2)) cwX12_person (tb_mem 1630 (by decide +kernel) (by decide +kernel)) imX12_person seX12_person (by decide +kernel) rfl (ci := 10) rfl (OB.at (ci := 10) (show shp 171 = (20, 0) by decide +kernel) (by decide)) (by decide) (Nat.le_of_eq (Nat.zero_add _)) rfl rfl (by simp [oneSlot]) (Nat.le_of_ble_eq_true rfl) (Ct.mono (ha.2 g2 (fun b9 g3 => Rel9 g3 ∧ g3 171 0 = c ∧ (c = 0 → b9 = v) ∧ g3 190 0 = g2 190 0) hlo (fun b9 g3 r z e f => ⟨r, z, e, f 0⟩)) ?_)
    rintro o h' ⟨b9, g3, ⟨rfl, rfl⟩, r3, z3, e3, f3⟩
    show AW Γ l mL_law_ 60 (b - 2) 466 [vR 4000, vR 1, vR 171, vR 190, vI i, vI c, vU] [vI b9] (stt g3) K
    refine aw_istore (i := 6) (by decide +kernel) (by decide) ?_
    show AW Γ l mL_law_ 60 (b - 2) 468 [vR 4000, vR 1, vR 171, vR 190, vI i, vI c, vI b9] [] (stt g3) K
    refine aw_aload_n (k' := 2) (by decide +kernel) rfl ?_
    refine aw_callV (y := yX12_thrown) (M2 := mX12_thrown) (as := []) (S := []) (idx := 145) (t := 171) (d2 := 0) (b2 := 0) (b3 := (b - 2)) cwX12_thrown (tb_mem 1322 (by decide +kernel) (by decide +kernel)) imX12_thrown seX12_thrown (by decide +kernel) rfl (ci := 10) rfl (OB.at (ci := 10) (show shp 171 = (20, 0) by decide +kernel) (by decide)) (by decide) (Nat.le_of_eq (Nat.zero_add _)) rfl rfl (by simp [oneSlot]) (Nat.le_of_ble_eq_true rfl) (wpX12_thrown ?_)
    show AW Γ l mL_law_ 60 (b - 2) 472 [vR 4000, vR 1, vR 171, vR 190, vI i, vI c, vI b9] [vI (g3 171 0)] (stt g3) K
    refine aw_iload (i := 5) (by decide +kernel) rfl ?_
    refine ax_icmp_eq (off := 5) (tgt := 479) (x' := wr (g3 171 0)) (y' := wr c) (by decide +kernel) (by decide) rfl rfl (fun hc8 => ?_) (fun hc8 => absurd (by rw [z3]) hc8)
    refine aw_iload (i := 5) (by decide +kernel) rfl ?_
    refine ax_if_ne (off := 15) (tgt := 496) (x' := wr c) (by decide +kernel) (by decide) rfl (fun hc7 => ?_) (fun hc7 => ?_)
    · skip
      refine aw_goto (off := 2043) (tgt := 2539) (by decide +kernel) (by decide) ?_
      exact AW.locals (next g3 _ (by omega) r3) drop7
    · have hcr : 0 ≤ c ∧ c ≤ 2 := ha.1
      have hc0 : c = 0 := by have := wr_id (x := c) (by omega) (by omega); omega
      refine aw_aload_n (k' := 3) (by decide +kernel) rfl ?_
      refine aw_iconst (n := 0) (by decide +kernel) ?_
      refine aw_lald (t := 190) (j := 0) (n := 1) (by decide +kernel) (isA_lit (show shp 190 = (3, 1) by decide +kernel) (by decide)) (by decide +kernel) (by decide +kernel) ?_
      rw [wr_0]
      refine aw_iload (i := 6) (by decide +kernel) rfl ?_
      refine aw_i2l (by decide +kernel) ?_
      refine aw_lcmp (by decide +kernel) ?_
      have e0 : lCmp (g3 190 0) (wr b9) = 0 := by rw [f3, h190 hc0, e3 hc0]; exact lCmp_self _
      rw [e0]
      refine ax_if_eq (off := 5) (tgt := 496) (x' := 0) (by decide +kernel) (by decide) (by decide +kernel) (fun _ => ?_) (fun hc5 => absurd rfl hc5)
      refine aw_goto (off := 2043) (tgt := 2539) (by decide +kernel) (by decide) ?_
      exact AW.locals (next g3 _ (by omega) r3) drop7
  refine aw_callSH (y := yL_person) (M2 := mL_person) (as := [vR 1, vI (SC Γ (i + 1)), vI (SC Γ (i + 2)), vR 190]) (S := []) (idx := 155) (d2 := 0 + 6 + 1) (b2 := 2) (b3 := (b - 2)) cwL_person (tb_mem 872 (by decide +kernel) (by decide +kernel)) stL_person (by decide +kernel) rfl (by decide) (by omega) rfl rfl (by simp [oneSlot]) (Nat.le_of_ble_eq_true rfl) (w_person (d2 := 0 + 6) (Nat.le_refl _) (fun c v g1 ha => ha.1) (p_person (Γ := Γ) (l := l) (d := 0) (p := SC Γ (i + 1)) (w := SC Γ (i + 2)) h (wr_SC _) (wr_SC _)).pa (fun v g1 ha => T 0 v g1 _ ha lo9_out (fun _ => upd2_eq)) (fun c v g1 ha hc9 => T c v g1 g1 ha (fun _ _ _ => rfl) (fun z => absurd z (by omega))))
set_option maxHeartbeats 1000000 in
theorem lc_6 {Γ : Cfg} {l : Launch} {b : Nat} {i : Int} {g : GG} {K : Ou → HP → Prop} (hi : 0 ≤ i ∧ i + 6 ≤ (Γ.2.2.2.2.1 : Int)) (hN : Γ.2.2.2.2.1 ≤ 3072) (h : Rel9 g) (hb : 8 ≤ b) (next : ∀ (g' : GG) (b' : Nat), b - 4 ≤ b' → Rel9 g' → AW Γ l mL_law_ 60 b' 2539 [vR 4000, vR 1, vR 171, vR 190, vI i, vU, vU] [] (stt g') K) : AW Γ l mL_law_ 60 b 499 [vR 4000, vR 1, vR 171, vR 190, vI i, vU, vU] [] (stt g) K := by
  refine aw_aload_n (k' := 1) (by decide +kernel) rfl ?_
  refine aw_aload_n (k' := 0) (by decide +kernel) rfl ?_
  refine aw_iload (i := 4) (by decide +kernel) rfl ?_
  refine aw_iconst (n := 1) (by decide +kernel) ?_
  refine aw_iadd (by decide +kernel) ?_
  refine aw_sld (x' := i + 1) (by decide +kernel) (wr_id (by omega) (by omega)) (by omega) ?_
  refine aw_aload_n (k' := 0) (by decide +kernel) rfl ?_
  refine aw_iload (i := 4) (by decide +kernel) rfl ?_
  refine aw_iconst (n := 2) (by decide +kernel) ?_
  refine aw_iadd (by decide +kernel) ?_
  refine aw_sld (x' := i + 2) (by decide +kernel) (wr_id (by omega) (by omega)) (by omega) ?_
  refine aw_aload_n (k' := 0) (by decide +kernel) rfl ?_
  refine aw_iload (i := 4) (by decide +kernel) rfl ?_
  refine aw_iconst (n := 3) (by decide +kernel) ?_
  refine aw_iadd (by decide +kernel) ?_
  refine aw_sld (x' := i + 3) (by decide +kernel) (wr_id (by omega) (by omega)) (by omega) ?_
  refine ax_if_eq (off := 7) (tgt := 525) (x' := SC Γ (i + 3)) (by decide +kernel) (by decide) (wr_SC _) (fun hc => ?_) (fun hc => ?_)
  · skip
    refine aw_iconst (n := 0) (by decide +kernel) ?_
    refine aw_aload_n (k' := 3) (by decide +kernel) rfl ?_
    have T : ∀ (c v : Int) (g1 g2 : GG), PA [eIO] (fun g2 K => Ct Γ l (0 + 3) 0 yX12_word mX12_word [vR 171, vI (SC Γ (i + 1)), vI (SC Γ (i + 2)), vI 0] (stt g2) K) c v g1 → lo9 g1 g2 → (c = 0 → g2 190 0 = wr v) → AW Γ l mL_law_ 60 (b - 1) 530 [vR 4000, vR 1, vR 171, vR 190, vI i, vU, vU] [vI c] (stt g2) K := by
      intro c v g1 g2 ha hlo h190
      refine aw_istore (i := 5) (by decide +kernel) (by decide) ?_
      show AW Γ l mL_law_ 60 (b - 1) 532 [vR 4000, vR 1, vR 171, vR 190, vI i, vI c, vU] [] (stt g2) K
      refine aw_aload_n (k' := 2) (by decide +kernel) rfl ?_
      refine aw_aload_n (k' := 0) (by decide +kernel) rfl ?_
      refine aw_iload (i := 4) (by decide +kernel) rfl ?_
      refine aw_iconst (n := 1) (by decide +kernel) ?_
      refine aw_iadd (by decide +kernel) ?_
      refine aw_sld (x' := i + 1) (by decide +kernel) (wr_id (by omega) (by omega)) (by omega) ?_
      refine aw_aload_n (k' := 0) (by decide +kernel) rfl ?_
      refine aw_iload (i := 4) (by decide +kernel) rfl ?_
      refine aw_iconst (n := 2) (by decide +kernel) ?_
      refine aw_iadd (by decide +kernel) ?_
      refine aw_sld (x' := i + 2) (by decide +kernel) (wr_id (by omega) (by omega)) (by omega) ?_
      refine aw_aload_n (k' := 0) (by decide +kernel) rfl ?_
      refine aw_iload (i := 4) (by decide +kernel) rfl ?_
      refine aw_iconst (n := 3) (by decide +kernel) ?_
      refine aw_iadd (by decide +kernel) ?_
      refine aw_sld (x' := i + 3) (by decide +kernel) (wr_id (by omega) (by omega)) (by omega) ?_
      refine ax_if_eq (off := 7) (tgt := 558) (x' := SC Γ (i + 3)) (by decide +kernel) (by decide) (wr_SC _) (fun _ => ?_) (fun hc9 => absurd hc hc9)
      refine aw_iconst (n := 0) (by decide +kernel) ?_
      refine aw_callV (y := yX12_word) (M2 := mX12_word) (as := [vI (SC Γ (i + 1)), vI (SC Γ (i + 2)), vI 0]) (S := []) (idx := 162) (t := 171) (d2 := 0 + 3) (b2 := 0) (b3 := (b - 1)) cwX12_word (tb_mem 1725 (by decide +kernel) (by decide +kernel)) imX12_word seX12_word (by decide +kernel) rfl (ci := 10) rfl (OB.at (ci := 10) (show shp 171 = (20, 0) by decide +kernel) (by decide)) (by decide) (Nat.le_of_eq (Nat.zero_add _)) rfl rfl (by simp [oneSlot]) (Nat.le_of_ble_eq_true rfl) (Ct.mono (ha.2 g2 (fun b9 g3 => Rel9 g3 ∧ g3 171 0 = c ∧ (c = 0 → b9 = v) ∧ g3 190 0 = g2 190 0) hlo (fun b9 g3 r z e f => ⟨r, z, e, f 0⟩)) ?_)
      rintro o h' ⟨b9, g3, ⟨rfl, rfl⟩, r3, z3, e3, f3⟩
      show AW Γ l mL_law_ 60 (b - 1) 562 [vR 4000, vR 1, vR 171, vR 190, vI i, vI c, vU] [vI b9] (stt g3) K
      refine aw_istore (i := 6) (by decide +kernel) (by decide) ?_
      show AW Γ l mL_law_ 60 (b - 1) 564 [vR 4000, vR 1, vR 171, vR 190, vI i, vI c, vI b9] [] (stt g3) K
      refine aw_aload_n (k' := 2) (by decide +kernel) rfl ?_
      refine aw_callV (y := yX12_thrown) (M2 := mX12_thrown) (as := []) (S := []) (idx := 145) (t := 171) (d2 := 0) (b2 := 0) (b3 := (b - 1)) cwX12_thrown (tb_mem 1322 (by decide +kernel) (by decide +kernel)) imX12_thrown seX12_thrown (by decide +kernel) rfl (ci := 10) rfl (OB.at (ci := 10) (show shp 171 = (20, 0) by decide +kernel) (by decide)) (by decide) (Nat.le_of_eq (Nat.zero_add _)) rfl rfl (by simp [oneSlot]) (Nat.le_of_ble_eq_true rfl) (wpX12_thrown ?_)
      show AW Γ l mL_law_ 60 (b - 1) 568 [vR 4000, vR 1, vR 171, vR 190, vI i, vI c, vI b9] [vI (g3 171 0)] (stt g3) K
      refine aw_iload (i := 5) (by decide +kernel) rfl ?_
      refine ax_icmp_eq (off := 5) (tgt := 575) (x' := wr (g3 171 0)) (y' := wr c) (by decide +kernel) (by decide) rfl rfl (fun hc8 => ?_) (fun hc8 => absurd (by rw [z3]) hc8)
      refine aw_iload (i := 5) (by decide +kernel) rfl ?_
      refine ax_if_ne (off := 15) (tgt := 592) (x' := wr c) (by decide +kernel) (by decide) rfl (fun hc7 => ?_) (fun hc7 => ?_)
      · skip
        refine aw_goto (off := 1947) (tgt := 2539) (by decide +kernel) (by decide) ?_
        exact AW.locals (next g3 _ (by omega) r3) drop7
      · have hcr : 0 ≤ c ∧ c ≤ 1 := ha.1
        have hc0 : c = 0 := by have := wr_id (x := c) (by omega) (by omega); omega
        refine aw_aload_n (k' := 3) (by decide +kernel) rfl ?_
        refine aw_iconst (n := 0) (by decide +kernel) ?_
        refine aw_lald (t := 190) (j := 0) (n := 1) (by decide +kernel) (isA_lit (show shp 190 = (3, 1) by decide +kernel) (by decide)) (by decide +kernel) (by decide +kernel) ?_
        rw [wr_0]
        refine aw_iload (i := 6) (by decide +kernel) rfl ?_
        refine aw_i2l (by decide +kernel) ?_
        refine aw_lcmp (by decide +kernel) ?_
        have e0 : lCmp (g3 190 0) (wr b9) = 0 := by rw [f3, h190 hc0, e3 hc0]; exact lCmp_self _
        rw [e0]
        refine ax_if_eq (off := 5) (tgt := 592) (x' := 0) (by decide +kernel) (by decide) (by decide +kernel) (fun _ => ?_) (fun hc5 => absurd rfl hc5)
        refine aw_goto (off := 1947) (tgt := 2539) (by decide +kernel) (by decide) ?_
        exact AW.locals (next g3 _ (by omega) r3) drop7
    refine aw_callSH (y := yL_word) (M2 := mL_word) (as := [vR 1, vI (SC Γ (i + 1)), vI (SC Γ (i + 2)), vI 0, vR 190]) (S := []) (idx := 159) (d2 := 0 + 2 + 1) (b2 := 1) (b3 := (b - 1)) cwL_word (tb_mem 942 (by decide +kernel) (by decide +kernel)) stL_word (by decide +kernel) rfl (by decide) (by omega) rfl rfl (by simp [oneSlot]) (Nat.le_of_ble_eq_true rfl) (w_word (d2 := 0 + 2) (Nat.le_refl _) (fun c v g1 ha => ha.1) (p_word (Γ := Γ) (l := l) (d := 0) (p := SC Γ (i + 1)) (k := SC Γ (i + 2)) (n := 0) h (wr_SC _) (wr_SC _) (by decide +kernel)).pa (fun v g1 ha => T 0 v g1 _ ha lo9_out (fun _ => upd2_eq)) (fun c v g1 ha hc9 => T c v g1 g1 ha (fun _ _ _ => rfl) (fun z => absurd z (by omega))))
  · skip
    refine aw_iconst (n := 1) (by decide +kernel) ?_
    refine aw_goto (off := 4) (tgt := 526) (by decide +kernel) (by decide) ?_
    refine aw_aload_n (k' := 3) (by decide +kernel) rfl ?_
    have T : ∀ (c v : Int) (g1 g2 : GG), PA [eIO] (fun g2 K => Ct Γ l (0 + 3) 0 yX12_word mX12_word [vR 171, vI (SC Γ (i + 1)), vI (SC Γ (i + 2)), vI 1] (stt g2) K) c v g1 → lo9 g1 g2 → (c = 0 → g2 190 0 = wr v) → AW Γ l mL_law_ 60 (b - 1) 530 [vR 4000, vR 1, vR 171, vR 190, vI i, vU, vU] [vI c] (stt g2) K := by
      intro c v g1 g2 ha hlo h190
      refine aw_istore (i := 5) (by decide +kernel) (by decide) ?_
      show AW Γ l mL_law_ 60 (b - 1) 532 [vR 4000, vR 1, vR 171, vR 190, vI i, vI c, vU] [] (stt g2) K
      refine aw_aload_n (k' := 2) (by decide +kernel) rfl ?_
      refine aw_aload_n (k' := 0) (by decide +kernel) rfl ?_
      refine aw_iload (i := 4) (by decide +kernel) rfl ?_
      refine aw_iconst (n := 1) (by decide +kernel) ?_
      refine aw_iadd (by decide +kernel) ?_
      refine aw_sld (x' := i + 1) (by decide +kernel) (wr_id (by omega) (by omega)) (by omega) ?_
      refine aw_aload_n (k' := 0) (by decide +kernel) rfl ?_
      refine aw_iload (i := 4) (by decide +kernel) rfl ?_
      refine aw_iconst (n := 2) (by decide +kernel) ?_
      refine aw_iadd (by decide +kernel) ?_
      refine aw_sld (x' := i + 2) (by decide +kernel) (wr_id (by omega) (by omega)) (by omega) ?_
      refine aw_aload_n (k' := 0) (by decide +kernel) rfl ?_
      refine aw_iload (i := 4) (by decide +kernel) rfl ?_
      refine aw_iconst (n := 3) (by decide +kernel) ?_
      refine aw_iadd (by decide +kernel) ?_
      refine aw_sld (x' := i + 3) (by decide +kernel) (wr_id (by omega) (by omega)) (by omega) ?_
      refine ax_if_eq (off := 7) (tgt := 558) (x' := SC Γ (i + 3)) (by decide +kernel) (by decide) (wr_SC _) (fun hc9 => absurd hc9 hc) (fun _ => ?_)
      refine aw_iconst (n := 1) (by decide +kernel) ?_
      refine aw_goto (off := 4) (tgt := 559) (by decide +kernel) (by decide) ?_
      refine aw_callV (y := yX12_word) (M2 := mX12_word) (as := [vI (SC Γ (i + 1)), vI (SC Γ (i + 2)), vI 1]) (S := []) (idx := 162) (t := 171) (d2 := 0 + 3) (b2 := 0) (b3 := (b - 1)) cwX12_word (tb_mem 1725 (by decide +kernel) (by decide +kernel)) imX12_word seX12_word (by decide +kernel) rfl (ci := 10) rfl (OB.at (ci := 10) (show shp 171 = (20, 0) by decide +kernel) (by decide)) (by decide) (Nat.le_of_eq (Nat.zero_add _)) rfl rfl (by simp [oneSlot]) (Nat.le_of_ble_eq_true rfl) (Ct.mono (ha.2 g2 (fun b9 g3 => Rel9 g3 ∧ g3 171 0 = c ∧ (c = 0 → b9 = v) ∧ g3 190 0 = g2 190 0) hlo (fun b9 g3 r z e f => ⟨r, z, e, f 0⟩)) ?_)
      rintro o h' ⟨b9, g3, ⟨rfl, rfl⟩, r3, z3, e3, f3⟩
      show AW Γ l mL_law_ 60 (b - 1) 562 [vR 4000, vR 1, vR 171, vR 190, vI i, vI c, vU] [vI b9] (stt g3) K
      refine aw_istore (i := 6) (by decide +kernel) (by decide) ?_
      show AW Γ l mL_law_ 60 (b - 1) 564 [vR 4000, vR 1, vR 171, vR 190, vI i, vI c, vI b9] [] (stt g3) K
      refine aw_aload_n (k' := 2) (by decide +kernel) rfl ?_
      refine aw_callV (y := yX12_thrown) (M2 := mX12_thrown) (as := []) (S := []) (idx := 145) (t := 171) (d2 := 0) (b2 := 0) (b3 := (b - 1)) cwX12_thrown (tb_mem 1322 (by decide +kernel) (by decide +kernel)) imX12_thrown seX12_thrown (by decide +kernel) rfl (ci := 10) rfl (OB.at (ci := 10) (show shp 171 = (20, 0) by decide +kernel) (by decide)) (by decide) (Nat.le_of_eq (Nat.zero_add _)) rfl rfl (by simp [oneSlot]) (Nat.le_of_ble_eq_true rfl) (wpX12_thrown ?_)
      show AW Γ l mL_law_ 60 (b - 1) 568 [vR 4000, vR 1, vR 171, vR 190, vI i, vI c, vI b9] [vI (g3 171 0)] (stt g3) K
      refine aw_iload (i := 5) (by decide +kernel) rfl ?_
      refine ax_icmp_eq (off := 5) (tgt := 575) (x' := wr (g3 171 0)) (y' := wr c) (by decide +kernel) (by decide) rfl rfl (fun hc8 => ?_) (fun hc8 => absurd (by rw [z3]) hc8)
      refine aw_iload (i := 5) (by decide +kernel) rfl ?_
      refine ax_if_ne (off := 15) (tgt := 592) (x' := wr c) (by decide +kernel) (by decide) rfl (fun hc7 => ?_) (fun hc7 => ?_)
      · skip
        refine aw_goto (off := 1947) (tgt := 2539) (by decide +kernel) (by decide) ?_
        exact AW.locals (next g3 _ (by omega) r3) drop7
      · have hcr : 0 ≤ c ∧ c ≤ 1 := ha.1
        have hc0 : c = 0 := by have := wr_id (x := c) (by omega) (by omega); omega
        refine aw_aload_n (k' := 3) (by decide +kernel) rfl ?_
        refine aw_iconst (n := 0) (by decide +kernel) ?_
        refine aw_lald (t := 190) (j := 0) (n := 1) (by decide +kernel) (isA_lit (show shp 190 = (3, 1) by decide +kernel) (by decide)) (by decide +kernel) (by decide +kernel) ?_
        rw [wr_0]
        refine aw_iload (i := 6) (by decide +kernel) rfl ?_
        refine aw_i2l (by decide +kernel) ?_
        refine aw_lcmp (by decide +kernel) ?_
        have e0 : lCmp (g3 190 0) (wr b9) = 0 := by rw [f3, h190 hc0, e3 hc0]; exact lCmp_self _
        rw [e0]
        refine ax_if_eq (off := 5) (tgt := 592) (x' := 0) (by decide +kernel) (by decide) (by decide +kernel) (fun _ => ?_) (fun hc5 => absurd rfl hc5)
        refine aw_goto (off := 1947) (tgt := 2539) (by decide +kernel) (by decide) ?_
        exact AW.locals (next g3 _ (by omega) r3) drop7
    refine aw_callSH (y := yL_word) (M2 := mL_word) (as := [vR 1, vI (SC Γ (i + 1)), vI (SC Γ (i + 2)), vI 1, vR 190]) (S := []) (idx := 159) (d2 := 0 + 2 + 1) (b2 := 1) (b3 := (b - 1)) cwL_word (tb_mem 942 (by decide +kernel) (by decide +kernel)) stL_word (by decide +kernel) rfl (by decide) (by omega) rfl rfl (by simp [oneSlot]) (Nat.le_of_ble_eq_true rfl) (w_word (d2 := 0 + 2) (Nat.le_refl _) (fun c v g1 ha => ha.1) (p_word (Γ := Γ) (l := l) (d := 0) (p := SC Γ (i + 1)) (k := SC Γ (i + 2)) (n := 1) h (wr_SC _) (wr_SC _) (by decide +kernel)).pa (fun v g1 ha => T 0 v g1 _ ha lo9_out (fun _ => upd2_eq)) (fun c v g1 ha hc9 => T c v g1 g1 ha (fun _ _ _ => rfl) (fun z => absurd z (by omega))))
set_option maxHeartbeats 1000000 in
theorem lc_7 {Γ : Cfg} {l : Launch} {b : Nat} {i : Int} {g : GG} {K : Ou → HP → Prop} (hi : 0 ≤ i ∧ i + 6 ≤ (Γ.2.2.2.2.1 : Int)) (hN : Γ.2.2.2.2.1 ≤ 3072) (h : Rel9 g) (hb : 8 ≤ b) (next : ∀ (g' : GG) (b' : Nat), b - 4 ≤ b' → Rel9 g' → AW Γ l mL_law_ 60 b' 2539 [vR 4000, vR 1, vR 171, vR 190, vI i, vU, vU] [] (stt g') K) : AW Γ l mL_law_ 60 b 595 [vR 4000, vR 1, vR 171, vR 190, vI i, vU, vU] [] (stt g) K := by
  refine aw_aload_n (k' := 1) (by decide +kernel) rfl ?_
  refine aw_aload_n (k' := 0) (by decide +kernel) rfl ?_
  refine aw_iload (i := 4) (by decide +kernel) rfl ?_
  refine aw_iconst (n := 1) (by decide +kernel) ?_
  refine aw_iadd (by decide +kernel) ?_
  refine aw_sld (x' := i + 1) (by decide +kernel) (wr_id (by omega) (by omega)) (by omega) ?_
  refine aw_aload_n (k' := 0) (by decide +kernel) rfl ?_
  refine aw_iload (i := 4) (by decide +kernel) rfl ?_
  refine aw_iconst (n := 2) (by decide +kernel) ?_
  refine aw_iadd (by decide +kernel) ?_
  refine aw_sld (x' := i + 2) (by decide +kernel) (wr_id (by omega) (by omega)) (by omega) ?_
  refine aw_aload_n (k' := 0) (by decide +kernel) rfl ?_
  refine aw_iload (i := 4) (by decide +kernel) rfl ?_
  refine aw_iconst (n := 3) (by decide +kernel) ?_
  refine aw_iadd (by decide +kernel) ?_
  refine aw_sld (x' := i + 3) (by decide +kernel) (wr_id (by omega) (by omega)) (by omega) ?_
  refine aw_aload_n (k' := 3) (by decide +kernel) rfl ?_
  have T : ∀ (c v : Int) (g1 g2 : GG), PA [eIO, eIA, eNS] (fun g2 K => Ct Γ l (0 + 7) 0 yX12_reading mX12_reading [vR 171, vI (SC Γ (i + 1)), vI (SC Γ (i + 2)), vI (SC Γ (i + 3))] (stt g2) K) c v g1 → lo9 g1 g2 → (c = 0 → g2 190 0 = wr v) → AW Γ l mL_law_ 60 (b - 3) 618 [vR 4000, vR 1, vR 171, vR 190, vI i, vU, vU] [vI c] (stt g2) K := by
    intro c v g1 g2 ha hlo h190
    refine aw_istore (i := 5) (by decide +kernel) (by decide) ?_
    show AW Γ l mL_law_ 60 (b - 3) 620 [vR 4000, vR 1, vR 171, vR 190, vI i, vI c, vU] [] (stt g2) K
    refine aw_aload_n (k' := 2) (by decide +kernel) rfl ?_
    refine aw_aload_n (k' := 0) (by decide +kernel) rfl ?_
    refine aw_iload (i := 4) (by decide +kernel) rfl ?_
    refine aw_iconst (n := 1) (by decide +kernel) ?_
    refine aw_iadd (by decide +kernel) ?_
    refine aw_sld (x' := i + 1) (by decide +kernel) (wr_id (by omega) (by omega)) (by omega) ?_
    refine aw_aload_n (k' := 0) (by decide +kernel) rfl ?_
    refine aw_iload (i := 4) (by decide +kernel) rfl ?_
    refine aw_iconst (n := 2) (by decide +kernel) ?_
    refine aw_iadd (by decide +kernel) ?_
    refine aw_sld (x' := i + 2) (by decide +kernel) (wr_id (by omega) (by omega)) (by omega) ?_
    refine aw_aload_n (k' := 0) (by decide +kernel) rfl ?_
    refine aw_iload (i := 4) (by decide +kernel) rfl ?_
    refine aw_iconst (n := 3) (by decide +kernel) ?_
    refine aw_iadd (by decide +kernel) ?_
    refine aw_sld (x' := i + 3) (by decide +kernel) (wr_id (by omega) (by omega)) (by omega) ?_
    refine aw_callV (y := yX12_reading) (M2 := mX12_reading) (as := [vI (SC Γ (i + 1)), vI (SC Γ (i + 2)), vI (SC Γ (i + 3))]) (S := []) (idx := 166) (t := 171) (d2 := 0 + 7) (b2 := 0) (b3 := (b - 3)) cwX12_reading (tb_mem 1729 (by decide +kernel) (by decide +kernel)) imX12_reading seX12_reading (by decide +kernel) rfl (ci := 10) rfl (OB.at (ci := 10) (show shp 171 = (20, 0) by decide +kernel) (by decide)) (by decide) (Nat.le_of_eq (Nat.zero_add _)) rfl rfl (by simp [oneSlot]) (Nat.le_of_ble_eq_true rfl) (Ct.mono (ha.2 g2 (fun b9 g3 => Rel9 g3 ∧ g3 171 0 = c ∧ (c = 0 → b9 = v) ∧ g3 190 0 = g2 190 0) hlo (fun b9 g3 r z e f => ⟨r, z, e, f 0⟩)) ?_)
    rintro o h' ⟨b9, g3, ⟨rfl, rfl⟩, r3, z3, e3, f3⟩
    show AW Γ l mL_law_ 60 (b - 3) 642 [vR 4000, vR 1, vR 171, vR 190, vI i, vI c, vU] [vI b9] (stt g3) K
    refine aw_istore (i := 6) (by decide +kernel) (by decide) ?_
    show AW Γ l mL_law_ 60 (b - 3) 644 [vR 4000, vR 1, vR 171, vR 190, vI i, vI c, vI b9] [] (stt g3) K
    refine aw_aload_n (k' := 2) (by decide +kernel) rfl ?_
    refine aw_callV (y := yX12_thrown) (M2 := mX12_thrown) (as := []) (S := []) (idx := 145) (t := 171) (d2 := 0) (b2 := 0) (b3 := (b - 3)) cwX12_thrown (tb_mem 1322 (by decide +kernel) (by decide +kernel)) imX12_thrown seX12_thrown (by decide +kernel) rfl (ci := 10) rfl (OB.at (ci := 10) (show shp 171 = (20, 0) by decide +kernel) (by decide)) (by decide) (Nat.le_of_eq (Nat.zero_add _)) rfl rfl (by simp [oneSlot]) (Nat.le_of_ble_eq_true rfl) (wpX12_thrown ?_)
    show AW Γ l mL_law_ 60 (b - 3) 648 [vR 4000, vR 1, vR 171, vR 190, vI i, vI c, vI b9] [vI (g3 171 0)] (stt g3) K
    refine aw_iload (i := 5) (by decide +kernel) rfl ?_
    refine ax_icmp_eq (off := 5) (tgt := 655) (x' := wr (g3 171 0)) (y' := wr c) (by decide +kernel) (by decide) rfl rfl (fun hc8 => ?_) (fun hc8 => absurd (by rw [z3]) hc8)
    refine aw_iload (i := 5) (by decide +kernel) rfl ?_
    refine ax_if_ne (off := 15) (tgt := 672) (x' := wr c) (by decide +kernel) (by decide) rfl (fun hc7 => ?_) (fun hc7 => ?_)
    · skip
      refine aw_goto (off := 1867) (tgt := 2539) (by decide +kernel) (by decide) ?_
      exact AW.locals (next g3 _ (by omega) r3) drop7
    · have hcr : 0 ≤ c ∧ c ≤ 3 := ha.1
      have hc0 : c = 0 := by have := wr_id (x := c) (by omega) (by omega); omega
      refine aw_aload_n (k' := 3) (by decide +kernel) rfl ?_
      refine aw_iconst (n := 0) (by decide +kernel) ?_
      refine aw_lald (t := 190) (j := 0) (n := 1) (by decide +kernel) (isA_lit (show shp 190 = (3, 1) by decide +kernel) (by decide)) (by decide +kernel) (by decide +kernel) ?_
      rw [wr_0]
      refine aw_iload (i := 6) (by decide +kernel) rfl ?_
      refine aw_i2l (by decide +kernel) ?_
      refine aw_lcmp (by decide +kernel) ?_
      have e0 : lCmp (g3 190 0) (wr b9) = 0 := by rw [f3, h190 hc0, e3 hc0]; exact lCmp_self _
      rw [e0]
      refine ax_if_eq (off := 5) (tgt := 672) (x' := 0) (by decide +kernel) (by decide) (by decide +kernel) (fun _ => ?_) (fun hc5 => absurd rfl hc5)
      refine aw_goto (off := 1867) (tgt := 2539) (by decide +kernel) (by decide) ?_
      exact AW.locals (next g3 _ (by omega) r3) drop7
  refine aw_callSH (y := yL_reading) (M2 := mL_reading) (as := [vR 1, vI (SC Γ (i + 1)), vI (SC Γ (i + 2)), vI (SC Γ (i + 3)), vR 190]) (S := []) (idx := 163) (d2 := 0 + 5 + 1) (b2 := 3) (b3 := (b - 3)) cwL_reading (tb_mem 950 (by decide +kernel) (by decide +kernel)) stL_reading (by decide +kernel) rfl (by decide) (by omega) rfl rfl (by simp [oneSlot]) (Nat.le_of_ble_eq_true rfl) (w_reading (d2 := 0 + 5) (Nat.le_refl _) (fun c v g1 ha => ha.1) (p_reading (Γ := Γ) (l := l) (d := 0) (p := SC Γ (i + 1)) (k := SC Γ (i + 2)) (w := SC Γ (i + 3)) h (wr_SC _) (wr_SC _) (wr_SC _)).pa (fun v g1 ha => T 0 v g1 _ ha lo9_out (fun _ => upd2_eq)) (fun c v g1 ha hc9 => T c v g1 g1 ha (fun _ _ _ => rfl) (fun z => absurd z (by omega))))
set_option maxHeartbeats 1000000 in
theorem lc_8 {Γ : Cfg} {l : Launch} {b : Nat} {i : Int} {g : GG} {K : Ou → HP → Prop} (hi : 0 ≤ i ∧ i + 6 ≤ (Γ.2.2.2.2.1 : Int)) (hN : Γ.2.2.2.2.1 ≤ 3072) (h : Rel9 g) (hb : 8 ≤ b) (next : ∀ (g' : GG) (b' : Nat), b - 4 ≤ b' → Rel9 g' → AW Γ l mL_law_ 60 b' 2539 [vR 4000, vR 1, vR 171, vR 190, vI i, vU, vU] [] (stt g') K) : AW Γ l mL_law_ 60 b 675 [vR 4000, vR 1, vR 171, vR 190, vI i, vU, vU] [] (stt g) K := by
  refine aw_aload_n (k' := 1) (by decide +kernel) rfl ?_
  refine aw_aload_n (k' := 0) (by decide +kernel) rfl ?_
  refine aw_iload (i := 4) (by decide +kernel) rfl ?_
  refine aw_iconst (n := 1) (by decide +kernel) ?_
  refine aw_iadd (by decide +kernel) ?_
  refine aw_sld (x' := i + 1) (by decide +kernel) (wr_id (by omega) (by omega)) (by omega) ?_
  refine aw_aload_n (k' := 0) (by decide +kernel) rfl ?_
  refine aw_iload (i := 4) (by decide +kernel) rfl ?_
  refine aw_iconst (n := 2) (by decide +kernel) ?_
  refine aw_iadd (by decide +kernel) ?_
  refine aw_sld (x' := i + 2) (by decide +kernel) (wr_id (by omega) (by omega)) (by omega) ?_
  refine aw_aload_n (k' := 3) (by decide +kernel) rfl ?_
  have T : ∀ (c v : Int) (g1 g2 : GG), PA [eIO, eNS] (fun g2 K => Ct Γ l (0 + 7) 0 yX12_hold mX12_hold [vR 171, vI (SC Γ (i + 1)), vI (SC Γ (i + 2))] (stt g2) K) c v g1 → lo9 g1 g2 → (c = 0 → g2 190 0 = wr v) → AW Γ l mL_law_ 60 (b - 2) 692 [vR 4000, vR 1, vR 171, vR 190, vI i, vU, vU] [vI c] (stt g2) K := by
    intro c v g1 g2 ha hlo h190
    refine aw_istore (i := 5) (by decide +kernel) (by decide) ?_
    show AW Γ l mL_law_ 60 (b - 2) 694 [vR 4000, vR 1, vR 171, vR 190, vI i, vI c, vU] [] (stt g2) K
    refine aw_aload_n (k' := 2) (by decide +kernel) rfl ?_
    refine aw_aload_n (k' := 0) (by decide +kernel) rfl ?_
    refine aw_iload (i := 4) (by decide +kernel) rfl ?_
    refine aw_iconst (n := 1) (by decide +kernel) ?_
    refine aw_iadd (by decide +kernel) ?_
    refine aw_sld (x' := i + 1) (by decide +kernel) (wr_id (by omega) (by omega)) (by omega) ?_
    refine aw_aload_n (k' := 0) (by decide +kernel) rfl ?_
    refine aw_iload (i := 4) (by decide +kernel) rfl ?_
    refine aw_iconst (n := 2) (by decide +kernel) ?_
    refine aw_iadd (by decide +kernel) ?_
    refine aw_sld (x' := i + 2) (by decide +kernel) (wr_id (by omega) (by omega)) (by omega) ?_
    refine aw_callV (y := yX12_hold) (M2 := mX12_hold) (as := [vI (SC Γ (i + 1)), vI (SC Γ (i + 2))]) (S := []) (idx := 169) (t := 171) (d2 := 0 + 7) (b2 := 0) (b3 := (b - 2)) cwX12_hold (tb_mem 1741 (by decide +kernel) (by decide +kernel)) imX12_hold seX12_hold (by decide +kernel) rfl (ci := 10) rfl (OB.at (ci := 10) (show shp 171 = (20, 0) by decide +kernel) (by decide)) (by decide) (Nat.le_of_eq (Nat.zero_add _)) rfl rfl (by simp [oneSlot]) (Nat.le_of_ble_eq_true rfl) (Ct.mono (ha.2 g2 (fun b9 g3 => Rel9 g3 ∧ g3 171 0 = c ∧ (c = 0 → b9 = v) ∧ g3 190 0 = g2 190 0) hlo (fun b9 g3 r z e f => ⟨r, z, e, f 0⟩)) ?_)
    rintro o h' ⟨b9, g3, ⟨rfl, rfl⟩, r3, z3, e3, f3⟩
    show AW Γ l mL_law_ 60 (b - 2) 710 [vR 4000, vR 1, vR 171, vR 190, vI i, vI c, vU] [vI b9] (stt g3) K
    refine aw_istore (i := 6) (by decide +kernel) (by decide) ?_
    show AW Γ l mL_law_ 60 (b - 2) 712 [vR 4000, vR 1, vR 171, vR 190, vI i, vI c, vI b9] [] (stt g3) K
    refine aw_aload_n (k' := 2) (by decide +kernel) rfl ?_
    refine aw_callV (y := yX12_thrown) (M2 := mX12_thrown) (as := []) (S := []) (idx := 145) (t := 171) (d2 := 0) (b2 := 0) (b3 := (b - 2)) cwX12_thrown (tb_mem 1322 (by decide +kernel) (by decide +kernel)) imX12_thrown seX12_thrown (by decide +kernel) rfl (ci := 10) rfl (OB.at (ci := 10) (show shp 171 = (20, 0) by decide +kernel) (by decide)) (by decide) (Nat.le_of_eq (Nat.zero_add _)) rfl rfl (by simp [oneSlot]) (Nat.le_of_ble_eq_true rfl) (wpX12_thrown ?_)
    show AW Γ l mL_law_ 60 (b - 2) 716 [vR 4000, vR 1, vR 171, vR 190, vI i, vI c, vI b9] [vI (g3 171 0)] (stt g3) K
    refine aw_iload (i := 5) (by decide +kernel) rfl ?_
    refine ax_icmp_eq (off := 5) (tgt := 723) (x' := wr (g3 171 0)) (y' := wr c) (by decide +kernel) (by decide) rfl rfl (fun hc8 => ?_) (fun hc8 => absurd (by rw [z3]) hc8)
    refine aw_iload (i := 5) (by decide +kernel) rfl ?_
    refine ax_if_ne (off := 15) (tgt := 740) (x' := wr c) (by decide +kernel) (by decide) rfl (fun hc7 => ?_) (fun hc7 => ?_)
    · skip
      refine aw_goto (off := 1799) (tgt := 2539) (by decide +kernel) (by decide) ?_
      exact AW.locals (next g3 _ (by omega) r3) drop7
    · have hcr : 0 ≤ c ∧ c ≤ 2 := ha.1
      have hc0 : c = 0 := by have := wr_id (x := c) (by omega) (by omega); omega
      refine aw_aload_n (k' := 3) (by decide +kernel) rfl ?_
      refine aw_iconst (n := 0) (by decide +kernel) ?_
      refine aw_lald (t := 190) (j := 0) (n := 1) (by decide +kernel) (isA_lit (show shp 190 = (3, 1) by decide +kernel) (by decide)) (by decide +kernel) (by decide +kernel) ?_
      rw [wr_0]
      refine aw_iload (i := 6) (by decide +kernel) rfl ?_
      refine aw_i2l (by decide +kernel) ?_
      refine aw_lcmp (by decide +kernel) ?_
      have e0 : lCmp (g3 190 0) (wr b9) = 0 := by rw [f3, h190 hc0, e3 hc0]; exact lCmp_self _
      rw [e0]
      refine ax_if_eq (off := 5) (tgt := 740) (x' := 0) (by decide +kernel) (by decide) (by decide +kernel) (fun _ => ?_) (fun hc5 => absurd rfl hc5)
      refine aw_goto (off := 1799) (tgt := 2539) (by decide +kernel) (by decide) ?_
      exact AW.locals (next g3 _ (by omega) r3) drop7
  refine aw_callSH (y := yL_hold) (M2 := mL_hold) (as := [vR 1, vI (SC Γ (i + 1)), vI (SC Γ (i + 2)), vR 190]) (S := []) (idx := 167) (d2 := 0 + 5 + 1) (b2 := 2) (b3 := (b - 2)) cwL_hold (tb_mem 963 (by decide +kernel) (by decide +kernel)) stL_hold (by decide +kernel) rfl (by decide) (by omega) rfl rfl (by simp [oneSlot]) (Nat.le_of_ble_eq_true rfl) (w_hold (d2 := 0 + 5) (Nat.le_refl _) (fun c v g1 ha => ha.1) (p_hold (Γ := Γ) (l := l) (d := 0) (p := SC Γ (i + 1)) (w := SC Γ (i + 2)) h (wr_SC _) (wr_SC _)).pa (fun v g1 ha => T 0 v g1 _ ha lo9_out (fun _ => upd2_eq)) (fun c v g1 ha hc9 => T c v g1 g1 ha (fun _ _ _ => rfl) (fun z => absurd z (by omega))))
set_option maxHeartbeats 1000000 in
theorem lc_9 {Γ : Cfg} {l : Launch} {b : Nat} {i : Int} {g : GG} {K : Ou → HP → Prop} (hi : 0 ≤ i ∧ i + 6 ≤ (Γ.2.2.2.2.1 : Int)) (hN : Γ.2.2.2.2.1 ≤ 3072) (h : Rel9 g) (hb : 8 ≤ b) (next : ∀ (g' : GG) (b' : Nat), b - 4 ≤ b' → Rel9 g' → AW Γ l mL_law_ 60 b' 2539 [vR 4000, vR 1, vR 171, vR 190, vI i, vU, vU] [] (stt g') K) : AW Γ l mL_law_ 60 b 743 [vR 4000, vR 1, vR 171, vR 190, vI i, vU, vU] [] (stt g) K := by
  refine aw_aload_n (k' := 1) (by decide +kernel) rfl ?_
  refine aw_aload_n (k' := 0) (by decide +kernel) rfl ?_
  refine aw_iload (i := 4) (by decide +kernel) rfl ?_
  refine aw_iconst (n := 1) (by decide +kernel) ?_
  refine aw_iadd (by decide +kernel) ?_
  refine aw_sld (x' := i + 1) (by decide +kernel) (wr_id (by omega) (by omega)) (by omega) ?_
  refine aw_aload_n (k' := 3) (by decide +kernel) rfl ?_
  have T : ∀ (c v : Int) (g1 g2 : GG), PA [eIO] (fun g2 K => Ct Γ l (0 + 1) 0 yX12_mode mX12_mode [vR 171, vI (SC Γ (i + 1))] (stt g2) K) c v g1 → lo9 g1 g2 → (c = 0 → g2 190 0 = wr v) → AW Γ l mL_law_ 60 (b - 1) 754 [vR 4000, vR 1, vR 171, vR 190, vI i, vU, vU] [vI c] (stt g2) K := by
    intro c v g1 g2 ha hlo h190
    refine aw_istore (i := 5) (by decide +kernel) (by decide) ?_
    show AW Γ l mL_law_ 60 (b - 1) 756 [vR 4000, vR 1, vR 171, vR 190, vI i, vI c, vU] [] (stt g2) K
    refine aw_aload_n (k' := 2) (by decide +kernel) rfl ?_
    refine aw_aload_n (k' := 0) (by decide +kernel) rfl ?_
    refine aw_iload (i := 4) (by decide +kernel) rfl ?_
    refine aw_iconst (n := 1) (by decide +kernel) ?_
    refine aw_iadd (by decide +kernel) ?_
    refine aw_sld (x' := i + 1) (by decide +kernel) (wr_id (by omega) (by omega)) (by omega) ?_
    refine aw_callV (y := yX12_mode) (M2 := mX12_mode) (as := [vI (SC Γ (i + 1))]) (S := []) (idx := 173) (t := 171) (d2 := 0 + 1) (b2 := 0) (b3 := (b - 1)) cwX12_mode (tb_mem 1745 (by decide +kernel) (by decide +kernel)) imX12_mode seX12_mode (by decide +kernel) rfl (ci := 10) rfl (OB.at (ci := 10) (show shp 171 = (20, 0) by decide +kernel) (by decide)) (by decide) (Nat.le_of_eq (Nat.zero_add _)) rfl rfl (by simp [oneSlot]) (Nat.le_of_ble_eq_true rfl) (Ct.mono (ha.2 g2 (fun b9 g3 => Rel9 g3 ∧ g3 171 0 = c ∧ (c = 0 → b9 = v) ∧ g3 190 0 = g2 190 0) hlo (fun b9 g3 r z e f => ⟨r, z, e, f 0⟩)) ?_)
    rintro o h' ⟨b9, g3, ⟨rfl, rfl⟩, r3, z3, e3, f3⟩
    show AW Γ l mL_law_ 60 (b - 1) 766 [vR 4000, vR 1, vR 171, vR 190, vI i, vI c, vU] [vI b9] (stt g3) K
    refine aw_istore (i := 6) (by decide +kernel) (by decide) ?_
    show AW Γ l mL_law_ 60 (b - 1) 768 [vR 4000, vR 1, vR 171, vR 190, vI i, vI c, vI b9] [] (stt g3) K
    refine aw_aload_n (k' := 2) (by decide +kernel) rfl ?_
    refine aw_callV (y := yX12_thrown) (M2 := mX12_thrown) (as := []) (S := []) (idx := 145) (t := 171) (d2 := 0) (b2 := 0) (b3 := (b - 1)) cwX12_thrown (tb_mem 1322 (by decide +kernel) (by decide +kernel)) imX12_thrown seX12_thrown (by decide +kernel) rfl (ci := 10) rfl (OB.at (ci := 10) (show shp 171 = (20, 0) by decide +kernel) (by decide)) (by decide) (Nat.le_of_eq (Nat.zero_add _)) rfl rfl (by simp [oneSlot]) (Nat.le_of_ble_eq_true rfl) (wpX12_thrown ?_)
    show AW Γ l mL_law_ 60 (b - 1) 772 [vR 4000, vR 1, vR 171, vR 190, vI i, vI c, vI b9] [vI (g3 171 0)] (stt g3) K
    refine aw_iload (i := 5) (by decide +kernel) rfl ?_
    refine ax_icmp_eq (off := 5) (tgt := 779) (x' := wr (g3 171 0)) (y' := wr c) (by decide +kernel) (by decide) rfl rfl (fun hc8 => ?_) (fun hc8 => absurd (by rw [z3]) hc8)
    refine aw_iload (i := 5) (by decide +kernel) rfl ?_
    refine ax_if_ne (off := 15) (tgt := 796) (x' := wr c) (by decide +kernel) (by decide) rfl (fun hc7 => ?_) (fun hc7 => ?_)
    · skip
      refine aw_goto (off := 1743) (tgt := 2539) (by decide +kernel) (by decide) ?_
      exact AW.locals (next g3 _ (by omega) r3) drop7
    · have hcr : 0 ≤ c ∧ c ≤ 1 := ha.1
      have hc0 : c = 0 := by have := wr_id (x := c) (by omega) (by omega); omega
      refine aw_aload_n (k' := 3) (by decide +kernel) rfl ?_
      refine aw_iconst (n := 0) (by decide +kernel) ?_
      refine aw_lald (t := 190) (j := 0) (n := 1) (by decide +kernel) (isA_lit (show shp 190 = (3, 1) by decide +kernel) (by decide)) (by decide +kernel) (by decide +kernel) ?_
      rw [wr_0]
      refine aw_iload (i := 6) (by decide +kernel) rfl ?_
      refine aw_i2l (by decide +kernel) ?_
      refine aw_lcmp (by decide +kernel) ?_
      have e0 : lCmp (g3 190 0) (wr b9) = 0 := by rw [f3, h190 hc0, e3 hc0]; exact lCmp_self _
      rw [e0]
      refine ax_if_eq (off := 5) (tgt := 796) (x' := 0) (by decide +kernel) (by decide) (by decide +kernel) (fun _ => ?_) (fun hc5 => absurd rfl hc5)
      refine aw_goto (off := 1743) (tgt := 2539) (by decide +kernel) (by decide) ?_
      exact AW.locals (next g3 _ (by omega) r3) drop7
  refine aw_callSH (y := yL_mode) (M2 := mL_mode) (as := [vR 1, vI (SC Γ (i + 1)), vR 190]) (S := []) (idx := 170) (d2 := 0 + 1 + 1) (b2 := 1) (b3 := (b - 1)) cwL_mode (tb_mem 970 (by decide +kernel) (by decide +kernel)) stL_mode (by decide +kernel) rfl (by decide) (by omega) rfl rfl (by simp [oneSlot]) (Nat.le_of_ble_eq_true rfl) (w_mode (d2 := 0 + 1) (Nat.le_refl _) (fun c v g1 ha => ha.1) (p_mode (Γ := Γ) (l := l) (d := 0) (p := SC Γ (i + 1)) h (wr_SC _)).pa (fun v g1 ha => T 0 v g1 _ ha lo9_out (fun _ => upd2_eq)) (fun c v g1 ha hc9 => T c v g1 g1 ha (fun _ _ _ => rfl) (fun z => absurd z (by omega))))
set_option maxHeartbeats 1000000 in
theorem lc_10 {Γ : Cfg} {l : Launch} {b : Nat} {i : Int} {g : GG} {K : Ou → HP → Prop} (hi : 0 ≤ i ∧ i + 6 ≤ (Γ.2.2.2.2.1 : Int)) (hN : Γ.2.2.2.2.1 ≤ 3072) (h : Rel9 g) (hb : 8 ≤ b) (next : ∀ (g' : GG) (b' : Nat), b - 4 ≤ b' → Rel9 g' → AW Γ l mL_law_ 60 b' 2539 [vR 4000, vR 1, vR 171, vR 190, vI i, vU, vU] [] (stt g') K) : AW Γ l mL_law_ 60 b 799 [vR 4000, vR 1, vR 171, vR 190, vI i, vU, vU] [] (stt g) K := by
  refine aw_aload_n (k' := 1) (by decide +kernel) rfl ?_
  refine aw_aload_n (k' := 0) (by decide +kernel) rfl ?_
  refine aw_iload (i := 4) (by decide +kernel) rfl ?_
  refine aw_iconst (n := 1) (by decide +kernel) ?_
  refine aw_iadd (by decide +kernel) ?_
  refine aw_sld (x' := i + 1) (by decide +kernel) (wr_id (by omega) (by omega)) (by omega) ?_
  refine aw_aload_n (k' := 3) (by decide +kernel) rfl ?_
  have T : ∀ (c v : Int) (g1 g2 : GG), PA [eIA] (fun g2 K => Ct Γ l (0 + 13) 0 yX12_hours mX12_hours [vR 171, vI (SC Γ (i + 1))] (stt g2) K) c v g1 → lo9 g1 g2 → (c = 0 → g2 190 0 = wr v) → AW Γ l mL_law_ 60 (b - 1) 810 [vR 4000, vR 1, vR 171, vR 190, vI i, vU, vU] [vI c] (stt g2) K := by
    intro c v g1 g2 ha hlo h190
    refine aw_istore (i := 5) (by decide +kernel) (by decide) ?_
    show AW Γ l mL_law_ 60 (b - 1) 812 [vR 4000, vR 1, vR 171, vR 190, vI i, vI c, vU] [] (stt g2) K
    refine aw_aload_n (k' := 2) (by decide +kernel) rfl ?_
    refine aw_aload_n (k' := 0) (by decide +kernel) rfl ?_
    refine aw_iload (i := 4) (by decide +kernel) rfl ?_
    refine aw_iconst (n := 1) (by decide +kernel) ?_
    refine aw_iadd (by decide +kernel) ?_
    refine aw_sld (x' := i + 1) (by decide +kernel) (wr_id (by omega) (by omega)) (by omega) ?_
    refine aw_callV (y := yX12_hours) (M2 := mX12_hours) (as := [vI (SC Γ (i + 1))]) (S := []) (idx := 176) (t := 171) (d2 := 0 + 13) (b2 := 0) (b3 := (b - 1)) cwX12_hours (tb_mem 1749 (by decide +kernel) (by decide +kernel)) imX12_hours seX12_hours (by decide +kernel) rfl (ci := 10) rfl (OB.at (ci := 10) (show shp 171 = (20, 0) by decide +kernel) (by decide)) (by decide) (Nat.le_of_eq (Nat.zero_add _)) rfl rfl (by simp [oneSlot]) (Nat.le_of_ble_eq_true rfl) (Ct.mono (ha.2 g2 (fun b9 g3 => Rel9 g3 ∧ g3 171 0 = c ∧ (c = 0 → b9 = v) ∧ g3 190 0 = g2 190 0) hlo (fun b9 g3 r z e f => ⟨r, z, e, f 0⟩)) ?_)
    rintro o h' ⟨b9, g3, ⟨rfl, rfl⟩, r3, z3, e3, f3⟩
    show AW Γ l mL_law_ 60 (b - 1) 822 [vR 4000, vR 1, vR 171, vR 190, vI i, vI c, vU] [vI b9] (stt g3) K
    refine aw_istore (i := 6) (by decide +kernel) (by decide) ?_
    show AW Γ l mL_law_ 60 (b - 1) 824 [vR 4000, vR 1, vR 171, vR 190, vI i, vI c, vI b9] [] (stt g3) K
    refine aw_aload_n (k' := 2) (by decide +kernel) rfl ?_
    refine aw_callV (y := yX12_thrown) (M2 := mX12_thrown) (as := []) (S := []) (idx := 145) (t := 171) (d2 := 0) (b2 := 0) (b3 := (b - 1)) cwX12_thrown (tb_mem 1322 (by decide +kernel) (by decide +kernel)) imX12_thrown seX12_thrown (by decide +kernel) rfl (ci := 10) rfl (OB.at (ci := 10) (show shp 171 = (20, 0) by decide +kernel) (by decide)) (by decide) (Nat.le_of_eq (Nat.zero_add _)) rfl rfl (by simp [oneSlot]) (Nat.le_of_ble_eq_true rfl) (wpX12_thrown ?_)
    show AW Γ l mL_law_ 60 (b - 1) 828 [vR 4000, vR 1, vR 171, vR 190, vI i, vI c, vI b9] [vI (g3 171 0)] (stt g3) K
    refine aw_iload (i := 5) (by decide +kernel) rfl ?_
    refine ax_icmp_eq (off := 5) (tgt := 835) (x' := wr (g3 171 0)) (y' := wr c) (by decide +kernel) (by decide) rfl rfl (fun hc8 => ?_) (fun hc8 => absurd (by rw [z3]) hc8)
    refine aw_iload (i := 5) (by decide +kernel) rfl ?_
    refine ax_if_ne (off := 15) (tgt := 852) (x' := wr c) (by decide +kernel) (by decide) rfl (fun hc7 => ?_) (fun hc7 => ?_)
    · skip
      refine aw_goto (off := 1687) (tgt := 2539) (by decide +kernel) (by decide) ?_
      exact AW.locals (next g3 _ (by omega) r3) drop7
    · have hcr : 0 ≤ c ∧ c ≤ 1 := ha.1
      have hc0 : c = 0 := by have := wr_id (x := c) (by omega) (by omega); omega
      refine aw_aload_n (k' := 3) (by decide +kernel) rfl ?_
      refine aw_iconst (n := 0) (by decide +kernel) ?_
      refine aw_lald (t := 190) (j := 0) (n := 1) (by decide +kernel) (isA_lit (show shp 190 = (3, 1) by decide +kernel) (by decide)) (by decide +kernel) (by decide +kernel) ?_
      rw [wr_0]
      refine aw_iload (i := 6) (by decide +kernel) rfl ?_
      refine aw_i2l (by decide +kernel) ?_
      refine aw_lcmp (by decide +kernel) ?_
      have e0 : lCmp (g3 190 0) (wr b9) = 0 := by rw [f3, h190 hc0, e3 hc0]; exact lCmp_self _
      rw [e0]
      refine ax_if_eq (off := 5) (tgt := 852) (x' := 0) (by decide +kernel) (by decide) (by decide +kernel) (fun _ => ?_) (fun hc5 => absurd rfl hc5)
      refine aw_goto (off := 1687) (tgt := 2539) (by decide +kernel) (by decide) ?_
      exact AW.locals (next g3 _ (by omega) r3) drop7
  refine aw_callSH (y := yL_hours) (M2 := mL_hours) (as := [vR 1, vI (SC Γ (i + 1)), vR 190]) (S := []) (idx := 174) (d2 := 0 + 7 + 1) (b2 := 1) (b3 := (b - 1)) cwL_hours (tb_mem 981 (by decide +kernel) (by decide +kernel)) stL_hours (by decide +kernel) rfl (by decide) (by omega) rfl rfl (by simp [oneSlot]) (Nat.le_of_ble_eq_true rfl) (w_hours (d2 := 0 + 7) (Nat.le_refl _) (fun c v g1 ha => ha.1) (p_hours (Γ := Γ) (l := l) (d := 0) (n := SC Γ (i + 1)) h (wr_SC _)).pa (fun v g1 ha => T 0 v g1 _ ha lo9_out (fun _ => upd2_eq)) (fun c v g1 ha hc9 => T c v g1 g1 ha (fun _ _ _ => rfl) (fun z => absurd z (by omega))))
