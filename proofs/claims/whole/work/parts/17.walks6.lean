/-! WALKS: the reference, part 3 -/
set_option maxHeartbeats 1000000 in
theorem wpX12_laysOrder {Γ : Cfg} {l : Launch} {d b : Nat} {g : GG} {K : Ou → HP → Prop} {x1 : Int} (hF : AW Γ l mX12_laysOrder (d + 1) b 14 [vR 171, vI x1, vI ((iShl 1 (g 171 27)) - 1), vI x1, vI 0, vU, vU, vU, vU] [] (stt g) K) : Ct Γ l (d + 1) b yX12_laysOrder mX12_laysOrder [vR 171, vI x1] (stt g) K := by
  refine Ct.enter (L := [vR 171, vI x1, vU, vU, vU, vU, vU, vU, vU]) rfl rfl rfl (by decide +kernel) (by simp [oneSlot]) (Nat.le_of_ble_eq_true rfl) rfl ?_
  refine aw_iconst (n := 1) (by decide +kernel) ?_
  refine aw_aload_n (k' := 0) (by decide +kernel) rfl ?_
  refine gfX12_420 rfl (by decide +kernel) (OB.at (ci := 10) (show shp 171 = (20, 0) by decide +kernel) (by decide)) ?_
  refine aw_ishl (by decide +kernel) ?_
  refine aw_iconst (n := 1) (by decide +kernel) ?_
  refine aw_isub (by decide +kernel) ?_
  refine aw_istore_n (k' := 2) (by decide +kernel) (by decide) ?_
  show AW Γ l mX12_laysOrder (d + 1) b 9 [vR 171, vI x1, vI ((iShl 1 (g 171 27)) - 1), vU, vU, vU, vU, vU, vU] [] (stt g) K
  refine aw_iload_n (k' := 1) (by decide +kernel) rfl ?_
  refine aw_istore_n (k' := 3) (by decide +kernel) (by decide) ?_
  show AW Γ l mX12_laysOrder (d + 1) b 11 [vR 171, vI x1, vI ((iShl 1 (g 171 27)) - 1), vI x1, vU, vU, vU, vU, vU] [] (stt g) K
  refine aw_iconst (n := 0) (by decide +kernel) ?_
  refine aw_istore (i := 4) (by decide +kernel) (by decide) ?_
  show AW Γ l mX12_laysOrder (d + 1) b 14 [vR 171, vI x1, vI ((iShl 1 (g 171 27)) - 1), vI x1, vI 0, vU, vU, vU, vU] [] (stt g) K
  exact hF
set_option maxHeartbeats 1000000 in
theorem wpX12_laysOrder_14 {Γ : Cfg} {l : Launch} {d b : Nat} {g : GG} {K : Ou → HP → Prop} {x1 : Int} {y2 : Int} {y3 : Int} {y4 : Int} (hF : (wr (g 171 27) ≤ wr y4 → K (.inl vU) (stt g)) ∧ (¬ (wr (g 171 27) ≤ wr y4) → AW Γ l mX12_laysOrder (d + 1) b 29 [vR 171, vI x1, vI y2, vI y3, vI y4, vI 1, vI 2, vU, vU] [] (stt g) K)) : AW Γ l mX12_laysOrder (d + 1) b 14 [vR 171, vI x1, vI y2, vI y3, vI y4, vU, vU, vU, vU] [] (stt g) K := by
  refine aw_iload (i := 4) (by decide +kernel) rfl ?_
  refine aw_aload_n (k' := 0) (by decide +kernel) rfl ?_
  refine gfX12_420 rfl (by decide +kernel) (OB.at (ci := 10) (show shp 171 = (20, 0) by decide +kernel) (by decide)) ?_
  refine ax_icmp_ge (off := 104) (tgt := 124) (x' := wr y4) (y' := wr (g 171 27)) (by decide +kernel) (by decide) rfl rfl (fun hc => ?_) (fun hc => ?_)
  · have hF := hF.1 hc
    exact aw_vret (by decide +kernel) rfl hF
  · have hF := hF.2 hc
    refine aw_iconst (n := 1) (by decide +kernel) ?_
    refine aw_istore (i := 5) (by decide +kernel) (by decide) ?_
    show AW Γ l mX12_laysOrder (d + 1) b 26 [vR 171, vI x1, vI y2, vI y3, vI y4, vI 1, vU, vU, vU] [] (stt g) K
    refine aw_iconst (n := 2) (by decide +kernel) ?_
    refine aw_istore (i := 6) (by decide +kernel) (by decide) ?_
    show AW Γ l mX12_laysOrder (d + 1) b 29 [vR 171, vI x1, vI y2, vI y3, vI y4, vI 1, vI 2, vU, vU] [] (stt g) K
    exact hF
set_option maxHeartbeats 1000000 in
theorem wpX12_laysOrder_29 {Γ : Cfg} {l : Launch} {d b : Nat} {g : GG} {K : Ou → HP → Prop} {x1 : Int} {y2 : Int} {y3 : Int} {y4 : Int} {y5 : Int} {y6 : Int} (hF : (wr ((g 171 27) - y4) ≤ wr y6 → wr y5 ≠ 0 ∧ (wr y5 ≠ 0 ∧ (AW Γ l mX12_laysOrder (d + 1) b 74 [vR 171, vI x1, vI y2, vI (iRem y3 y5), vI y4, vI y5, vI (iDiv y3 y5), vI (iNTZ y2), vI 0] [] (stt g) K))) ∧ (¬ (wr ((g 171 27) - y4) ≤ wr y6) → AW Γ l mX12_laysOrder (d + 1) b 29 [vR 171, vI x1, vI y2, vI y3, vI y4, vI (y5 * y6), vI (y6 + 1), vU, vU] [] (stt g) K)) : AW Γ l mX12_laysOrder (d + 1) b 29 [vR 171, vI x1, vI y2, vI y3, vI y4, vI y5, vI y6, vU, vU] [] (stt g) K := by
  refine aw_iload (i := 6) (by decide +kernel) rfl ?_
  refine aw_aload_n (k' := 0) (by decide +kernel) rfl ?_
  refine gfX12_420 rfl (by decide +kernel) (OB.at (ci := 10) (show shp 171 = (20, 0) by decide +kernel) (by decide)) ?_
  refine aw_iload (i := 4) (by decide +kernel) rfl ?_
  refine aw_isub (by decide +kernel) ?_
  refine ax_icmp_ge (off := 16) (tgt := 54) (x' := wr y6) (y' := wr ((g 171 27) - y4)) (by decide +kernel) (by decide) rfl rfl (fun hc => ?_) (fun hc => ?_)
  · have hF := hF.1 hc
    refine aw_iload_n (k' := 3) (by decide +kernel) rfl ?_
    refine aw_iload (i := 5) (by decide +kernel) rfl ?_
    refine aw_idiv (by decide +kernel) hF.1 ?_
    replace hF := hF.2
    refine aw_istore (i := 6) (by decide +kernel) (by decide) ?_
    show AW Γ l mX12_laysOrder (d + 1) b 60 [vR 171, vI x1, vI y2, vI y3, vI y4, vI y5, vI (iDiv y3 y5), vU, vU] [] (stt g) K
    refine aw_iload_n (k' := 3) (by decide +kernel) rfl ?_
    refine aw_iload (i := 5) (by decide +kernel) rfl ?_
    refine aw_irem (by decide +kernel) hF.1 ?_
    replace hF := hF.2
    refine aw_istore_n (k' := 3) (by decide +kernel) (by decide) ?_
    show AW Γ l mX12_laysOrder (d + 1) b 65 [vR 171, vI x1, vI y2, vI (iRem y3 y5), vI y4, vI y5, vI (iDiv y3 y5), vU, vU] [] (stt g) K
    refine aw_iload_n (k' := 2) (by decide +kernel) rfl ?_
    refine aw_callS (y := yJ6_numberOfTrailingZeros_0f7a4) (M2 := mJ6_numberOfTrailingZeros_0f7a4) (as := [vI y2]) (S := []) (d2 := d) (b2 := 0) (b3 := b) cwJ6_numberOfTrailingZeros_0f7a4 mlX12_423 stJ6_numberOfTrailingZeros_0f7a4 (by decide +kernel) rfl (Nat.le_refl _) (Nat.le_of_eq (Nat.zero_add _)) rfl rfl (by simp [oneSlot]) (Nat.le_of_ble_eq_true rfl) (c_ntz ?_)
    show AW Γ l mX12_laysOrder (d + 1) b 69 [vR 171, vI x1, vI y2, vI (iRem y3 y5), vI y4, vI y5, vI (iDiv y3 y5), vU, vU] [vI (iNTZ y2)] (stt g) K
    refine aw_istore (i := 7) (by decide +kernel) (by decide) ?_
    show AW Γ l mX12_laysOrder (d + 1) b 71 [vR 171, vI x1, vI y2, vI (iRem y3 y5), vI y4, vI y5, vI (iDiv y3 y5), vI (iNTZ y2), vU] [] (stt g) K
    refine aw_iconst (n := 0) (by decide +kernel) ?_
    refine aw_istore (i := 8) (by decide +kernel) (by decide) ?_
    show AW Γ l mX12_laysOrder (d + 1) b 74 [vR 171, vI x1, vI y2, vI (iRem y3 y5), vI y4, vI y5, vI (iDiv y3 y5), vI (iNTZ y2), vI 0] [] (stt g) K
    exact hF
  · have hF := hF.2 hc
    refine aw_iload (i := 5) (by decide +kernel) rfl ?_
    refine aw_iload (i := 6) (by decide +kernel) rfl ?_
    refine aw_imul (by decide +kernel) ?_
    refine aw_istore (i := 5) (by decide +kernel) (by decide) ?_
    show AW Γ l mX12_laysOrder (d + 1) b 48 [vR 171, vI x1, vI y2, vI y3, vI y4, vI (y5 * y6), vI y6, vU, vU] [] (stt g) K
    refine aw_iinc (i := 6) (n := 1) (by decide +kernel) rfl (by decide) ?_
    show AW Γ l mX12_laysOrder (d + 1) b 51 [vR 171, vI x1, vI y2, vI y3, vI y4, vI (y5 * y6), vI (y6 + 1), vU, vU] [] (stt g) K
    refine aw_goto (off := -22) (tgt := 29) (by decide +kernel) (by decide) ?_
    exact hF
set_option maxHeartbeats 1000000 in
theorem wpX12_laysOrder_74 {Γ : Cfg} {l : Launch} {d b : Nat} {g : GG} {K : Ou → HP → Prop} {x1 : Int} {y2 : Int} {y3 : Int} {y4 : Int} {y5 : Int} {y6 : Int} {y7 : Int} {y8 : Int} (hF : (wr y6 ≤ wr y8 → (0 ≤ wr y4 ∧ wr y4 < 6) ∧ (AW Γ l mX12_laysOrder (d + 1) b 14 [vR 171, vI x1, vI (iAnd y2 (iXor (iShl 1 y7) (-1))), vI y3, vI (y4 + 1), vI y5, vI y6, vI y7, vI y8] [] (stt (upd2 g 184 (wr y4) y7)) K)) ∧ (¬ (wr y6 ≤ wr y8) → AW Γ l mX12_laysOrder (d + 1) b 74 [vR 171, vI x1, vI y2, vI y3, vI y4, vI y5, vI y6, vI (iNTZ (iAnd y2 (iShl (-1) (y7 + 1)))), vI (y8 + 1)] [] (stt g) K)) : AW Γ l mX12_laysOrder (d + 1) b 74 [vR 171, vI x1, vI y2, vI y3, vI y4, vI y5, vI y6, vI y7, vI y8] [] (stt g) K := by
  refine aw_iload (i := 8) (by decide +kernel) rfl ?_
  refine aw_iload (i := 6) (by decide +kernel) rfl ?_
  refine ax_icmp_ge (off := 22) (tgt := 100) (x' := wr y8) (y' := wr y6) (by decide +kernel) (by decide) rfl rfl (fun hc => ?_) (fun hc => ?_)
  · have hF := hF.1 hc
    refine aw_aload_n (k' := 0) (by decide +kernel) rfl ?_
    refine gfX12_54 rfl (by decide +kernel) (OB.at (ci := 10) (show shp 171 = (20, 0) by decide +kernel) (by decide)) ?_
    refine AW.topR (show RC 171 28 = 184 by decide +kernel) ?_
    refine aw_iload (i := 4) (by decide +kernel) rfl ?_
    refine aw_iload (i := 7) (by decide +kernel) rfl ?_
    refine ax_iast (i := wr y4) (by decide +kernel) (isA_lit (show shp 184 = (0, 6) by decide +kernel) (by decide)) rfl hF.1 ?_
    show AW Γ l mX12_laysOrder (d + 1) b 109 [vR 171, vI x1, vI y2, vI y3, vI y4, vI y5, vI y6, vI y7, vI y8] [] (stt (upd2 g 184 (wr y4) y7)) K
    replace hF := hF.2
    refine aw_iload_n (k' := 2) (by decide +kernel) rfl ?_
    refine aw_iconst (n := 1) (by decide +kernel) ?_
    refine aw_iload (i := 7) (by decide +kernel) rfl ?_
    refine aw_ishl (by decide +kernel) ?_
    refine aw_iconst (n := -1) (by decide +kernel) ?_
    refine aw_ixor (by decide +kernel) ?_
    refine aw_iand (by decide +kernel) ?_
    refine aw_istore_n (k' := 2) (by decide +kernel) (by decide) ?_
    show AW Γ l mX12_laysOrder (d + 1) b 118 [vR 171, vI x1, vI (iAnd y2 (iXor (iShl 1 y7) (-1))), vI y3, vI y4, vI y5, vI y6, vI y7, vI y8] [] (stt (upd2 g 184 (wr y4) y7)) K
    refine aw_iinc (i := 4) (n := 1) (by decide +kernel) rfl (by decide) ?_
    show AW Γ l mX12_laysOrder (d + 1) b 121 [vR 171, vI x1, vI (iAnd y2 (iXor (iShl 1 y7) (-1))), vI y3, vI (y4 + 1), vI y5, vI y6, vI y7, vI y8] [] (stt (upd2 g 184 (wr y4) y7)) K
    refine aw_goto (off := -107) (tgt := 14) (by decide +kernel) (by decide) ?_
    exact hF
  · have hF := hF.2 hc
    refine aw_iload_n (k' := 2) (by decide +kernel) rfl ?_
    refine aw_iconst (n := -1) (by decide +kernel) ?_
    refine aw_iload (i := 7) (by decide +kernel) rfl ?_
    refine aw_iconst (n := 1) (by decide +kernel) ?_
    refine aw_iadd (by decide +kernel) ?_
    refine aw_ishl (by decide +kernel) ?_
    refine aw_iand (by decide +kernel) ?_
    refine aw_callS (y := yJ6_numberOfTrailingZeros_0f7a4) (M2 := mJ6_numberOfTrailingZeros_0f7a4) (as := [vI (iAnd y2 (iShl (-1) (y7 + 1)))]) (S := []) (d2 := d) (b2 := 0) (b3 := b) cwJ6_numberOfTrailingZeros_0f7a4 mlX12_423 stJ6_numberOfTrailingZeros_0f7a4 (by decide +kernel) rfl (Nat.le_refl _) (Nat.le_of_eq (Nat.zero_add _)) rfl rfl (by simp [oneSlot]) (Nat.le_of_ble_eq_true rfl) (c_ntz ?_)
    show AW Γ l mX12_laysOrder (d + 1) b 92 [vR 171, vI x1, vI y2, vI y3, vI y4, vI y5, vI y6, vI y7, vI y8] [vI (iNTZ (iAnd y2 (iShl (-1) (y7 + 1))))] (stt g) K
    refine aw_istore (i := 7) (by decide +kernel) (by decide) ?_
    show AW Γ l mX12_laysOrder (d + 1) b 94 [vR 171, vI x1, vI y2, vI y3, vI y4, vI y5, vI y6, vI (iNTZ (iAnd y2 (iShl (-1) (y7 + 1)))), vI y8] [] (stt g) K
    refine aw_iinc (i := 8) (n := 1) (by decide +kernel) rfl (by decide) ?_
    show AW Γ l mX12_laysOrder (d + 1) b 97 [vR 171, vI x1, vI y2, vI y3, vI y4, vI y5, vI y6, vI (iNTZ (iAnd y2 (iShl (-1) (y7 + 1)))), vI (y8 + 1)] [] (stt g) K
    refine aw_goto (off := -23) (tgt := 74) (by decide +kernel) (by decide) ?_
    exact hF

set_option maxHeartbeats 1000000 in
theorem wpX12_putsInOrder {Γ : Cfg} {l : Launch} {d b : Nat} {g : GG} {K : Ou → HP → Prop}  (hF : AW Γ l mX12_putsInOrder d b 4 [vR 171, vI 0, vI 0, vU] [] (stt g) K) : Ct Γ l d b yX12_putsInOrder mX12_putsInOrder [vR 171] (stt g) K := by
  refine Ct.enter (L := [vR 171, vU, vU, vU]) rfl rfl rfl (by decide +kernel) (by simp [oneSlot]) (Nat.le_of_ble_eq_true rfl) rfl ?_
  refine aw_iconst (n := 0) (by decide +kernel) ?_
  refine aw_istore_n (k' := 1) (by decide +kernel) (by decide) ?_
  show AW Γ l mX12_putsInOrder d b 2 [vR 171, vI 0, vU, vU] [] (stt g) K
  refine aw_iconst (n := 0) (by decide +kernel) ?_
  refine aw_istore_n (k' := 2) (by decide +kernel) (by decide) ?_
  show AW Γ l mX12_putsInOrder d b 4 [vR 171, vI 0, vI 0, vU] [] (stt g) K
  exact hF
set_option maxHeartbeats 1000000 in
theorem wpX12_putsInOrder_4 {Γ : Cfg} {l : Launch} {d b : Nat} {g : GG} {K : Ou → HP → Prop} {y1 : Int} {y2 : Int} (hF : (wr (g 171 27) ≤ wr y2 → K (.inl vU) (stt g)) ∧ (¬ (wr (g 171 27) ≤ wr y2) → AW Γ l mX12_putsInOrder d b 14 [vR 171, vI y1, vI y2, vI 0] [] (stt g) K)) : AW Γ l mX12_putsInOrder d b 4 [vR 171, vI y1, vI y2, vU] [] (stt g) K := by
  refine aw_iload_n (k' := 2) (by decide +kernel) rfl ?_
  refine aw_aload_n (k' := 0) (by decide +kernel) rfl ?_
  refine gfX12_420 rfl (by decide +kernel) (OB.at (ci := 10) (show shp 171 = (20, 0) by decide +kernel) (by decide)) ?_
  refine ax_icmp_ge (off := 54) (tgt := 63) (x' := wr y2) (y' := wr (g 171 27)) (by decide +kernel) (by decide) rfl rfl (fun hc => ?_) (fun hc => ?_)
  · have hF := hF.1 hc
    exact aw_vret (by decide +kernel) rfl hF
  · have hF := hF.2 hc
    refine aw_iconst (n := 0) (by decide +kernel) ?_
    refine aw_istore_n (k' := 3) (by decide +kernel) (by decide) ?_
    show AW Γ l mX12_putsInOrder d b 14 [vR 171, vI y1, vI y2, vI 0] [] (stt g) K
    exact hF
set_option maxHeartbeats 1000000 in
theorem wpX12_putsInOrder_14 {Γ : Cfg} {l : Launch} {d b : Nat} {g : GG} {K : Ou → HP → Prop} {y1 : Int} {y2 : Int} {y3 : Int} (hF : (0 ≤ wr y2 ∧ wr y2 < 6) ∧ ((0 ≤ wr (g 184 (wr y2)) ∧ wr (g 184 (wr y2)) < 12) ∧ ((wr (g 183 (wr (g 184 (wr y2)))) ≤ wr y3 → AW Γ l mX12_putsInOrder d b 4 [vR 171, vI y1, vI (y2 + 1), vI y3] [] (stt g) K) ∧ (¬ (wr (g 183 (wr (g 184 (wr y2)))) ≤ wr y3) → (0 ≤ wr y2 ∧ wr y2 < 6) ∧ ((0 ≤ wr (g 184 (wr y2)) ∧ wr (g 184 (wr y2)) < 12) ∧ ((0 ≤ wr y1 ∧ wr y1 < 12) ∧ (∀ g1 : GG, g1 = upd2 g 180 (wr y1) ((g 182 (wr (g 184 (wr y2)))) + y3) → AW Γ l mX12_putsInOrder d b 14 [vR 171, vI (y1 + 1), vI y2, vI (y3 + 1)] [] (stt g1) K))))))) : AW Γ l mX12_putsInOrder d b 14 [vR 171, vI y1, vI y2, vI y3] [] (stt g) K := by
  refine aw_iload_n (k' := 3) (by decide +kernel) rfl ?_
  refine aw_aload_n (k' := 0) (by decide +kernel) rfl ?_
  refine gfX12_51 rfl (by decide +kernel) (OB.at (ci := 10) (show shp 171 = (20, 0) by decide +kernel) (by decide)) ?_
  refine AW.topR (show RC 171 26 = 183 by decide +kernel) ?_
  refine aw_aload_n (k' := 0) (by decide +kernel) rfl ?_
  refine gfX12_54 rfl (by decide +kernel) (OB.at (ci := 10) (show shp 171 = (20, 0) by decide +kernel) (by decide)) ?_
  refine AW.topR (show RC 171 28 = 184 by decide +kernel) ?_
  refine aw_iload_n (k' := 2) (by decide +kernel) rfl ?_
  refine ax_iald (i := wr y2) (by decide +kernel) (isA_lit (show shp 184 = (0, 6) by decide +kernel) (by decide)) rfl hF.1 ?_
  replace hF := hF.2
  refine ax_iald (i := wr (g 184 (wr y2))) (by decide +kernel) (isA_lit (show shp 183 = (0, 12) by decide +kernel) (by decide)) rfl hF.1 ?_
  replace hF := hF.2
  refine ax_icmp_ge (off := 31) (tgt := 57) (x' := wr y3) (y' := wr (g 183 (wr (g 184 (wr y2))))) (by decide +kernel) (by decide) rfl rfl (fun hc => ?_) (fun hc => ?_)
  · have hF := hF.1 hc
    refine aw_iinc (i := 2) (n := 1) (by decide +kernel) rfl (by decide) ?_
    show AW Γ l mX12_putsInOrder d b 60 [vR 171, vI y1, vI (y2 + 1), vI y3] [] (stt g) K
    refine aw_goto (off := -56) (tgt := 4) (by decide +kernel) (by decide) ?_
    exact hF
  · have hF := hF.2 hc
    refine aw_aload_n (k' := 0) (by decide +kernel) rfl ?_
    refine gfX12_42 rfl (by decide +kernel) (OB.at (ci := 10) (show shp 171 = (20, 0) by decide +kernel) (by decide)) ?_
    refine AW.topR (show RC 171 22 = 180 by decide +kernel) ?_
    refine aw_iload_n (k' := 1) (by decide +kernel) rfl ?_
    refine aw_aload_n (k' := 0) (by decide +kernel) rfl ?_
    refine gfX12_48 rfl (by decide +kernel) (OB.at (ci := 10) (show shp 171 = (20, 0) by decide +kernel) (by decide)) ?_
    refine AW.topR (show RC 171 25 = 182 by decide +kernel) ?_
    refine aw_aload_n (k' := 0) (by decide +kernel) rfl ?_
    refine gfX12_54 rfl (by decide +kernel) (OB.at (ci := 10) (show shp 171 = (20, 0) by decide +kernel) (by decide)) ?_
    refine AW.topR (show RC 171 28 = 184 by decide +kernel) ?_
    refine aw_iload_n (k' := 2) (by decide +kernel) rfl ?_
    refine ax_iald (i := wr y2) (by decide +kernel) (isA_lit (show shp 184 = (0, 6) by decide +kernel) (by decide)) rfl hF.1 ?_
    replace hF := hF.2
    refine ax_iald (i := wr (g 184 (wr y2))) (by decide +kernel) (isA_lit (show shp 182 = (0, 12) by decide +kernel) (by decide)) rfl hF.1 ?_
    replace hF := hF.2
    refine aw_iload_n (k' := 3) (by decide +kernel) rfl ?_
    refine aw_iadd (by decide +kernel) ?_
    refine ax_iast (i := wr y1) (by decide +kernel) (isA_lit (show shp 180 = (0, 12) by decide +kernel) (by decide)) rfl hF.1 ?_
    show AW Γ l mX12_putsInOrder d b 48 [vR 171, vI y1, vI y2, vI y3] [] (stt (upd2 g 180 (wr y1) ((g 182 (wr (g 184 (wr y2)))) + y3))) K
    replace hF := hF.2
    show AW Γ l mX12_putsInOrder d b 48 [vR 171, vI y1, vI y2, vI y3] [] (stt (upd2 g 180 (wr y1) ((g 182 (wr (g 184 (wr y2)))) + y3))) K
    generalize eg1 : upd2 g 180 (wr y1) ((g 182 (wr (g 184 (wr y2)))) + y3) = g1
    replace hF := hF g1 eg1.symm
    refine aw_iinc (i := 1) (n := 1) (by decide +kernel) rfl (by decide) ?_
    show AW Γ l mX12_putsInOrder d b 51 [vR 171, vI (y1 + 1), vI y2, vI y3] [] (stt g1) K
    refine aw_iinc (i := 3) (n := 1) (by decide +kernel) rfl (by decide) ?_
    show AW Γ l mX12_putsInOrder d b 54 [vR 171, vI (y1 + 1), vI y2, vI (y3 + 1)] [] (stt g1) K
    refine aw_goto (off := -40) (tgt := 14) (by decide +kernel) (by decide) ?_
    exact hF

set_option maxHeartbeats 1000000 in
theorem wpX12_orders {Γ : Cfg} {l : Launch} {d b : Nat} {g : GG} {K : Ou → HP → Prop}  (hF : AW Γ l mX12_orders d b 4 [vR 171, vI 1, vI 2] [] (stt g) K) : Ct Γ l d b yX12_orders mX12_orders [vR 171] (stt g) K := by
  refine Ct.enter (L := [vR 171, vU, vU]) rfl rfl rfl (by decide +kernel) (by simp [oneSlot]) (Nat.le_of_ble_eq_true rfl) rfl ?_
  refine aw_iconst (n := 1) (by decide +kernel) ?_
  refine aw_istore_n (k' := 1) (by decide +kernel) (by decide) ?_
  show AW Γ l mX12_orders d b 2 [vR 171, vI 1, vU] [] (stt g) K
  refine aw_iconst (n := 2) (by decide +kernel) ?_
  refine aw_istore_n (k' := 2) (by decide +kernel) (by decide) ?_
  show AW Γ l mX12_orders d b 4 [vR 171, vI 1, vI 2] [] (stt g) K
  exact hF
set_option maxHeartbeats 1000000 in
theorem wpX12_orders_4 {Γ : Cfg} {l : Launch} {d b : Nat} {g : GG} {K : Ou → HP → Prop} {y1 : Int} {y2 : Int} (hF : (wr (g 171 27) < wr y2 → K (.inl (vI y1)) (stt g)) ∧ (¬ (wr (g 171 27) < wr y2) → AW Γ l mX12_orders d b 4 [vR 171, vI (y1 * y2), vI (y2 + 1)] [] (stt g) K)) : AW Γ l mX12_orders d b 4 [vR 171, vI y1, vI y2] [] (stt g) K := by
  refine aw_iload_n (k' := 2) (by decide +kernel) rfl ?_
  refine aw_aload_n (k' := 0) (by decide +kernel) rfl ?_
  refine gfX12_420 rfl (by decide +kernel) (OB.at (ci := 10) (show shp 171 = (20, 0) by decide +kernel) (by decide)) ?_
  refine ax_icmp_gt (off := 13) (tgt := 22) (x' := wr y2) (y' := wr (g 171 27)) (by decide +kernel) (by decide) rfl rfl (fun hc => ?_) (fun hc => ?_)
  · have hF := hF.1 hc
    refine aw_iload_n (k' := 1) (by decide +kernel) rfl ?_
    exact aw_iret (by decide +kernel) rfl hF
  · have hF := hF.2 hc
    refine aw_iload_n (k' := 1) (by decide +kernel) rfl ?_
    refine aw_iload_n (k' := 2) (by decide +kernel) rfl ?_
    refine aw_imul (by decide +kernel) ?_
    refine aw_istore_n (k' := 1) (by decide +kernel) (by decide) ?_
    show AW Γ l mX12_orders d b 16 [vR 171, vI (y1 * y2), vI y2] [] (stt g) K
    refine aw_iinc (i := 2) (n := 1) (by decide +kernel) rfl (by decide) ?_
    show AW Γ l mX12_orders d b 19 [vR 171, vI (y1 * y2), vI (y2 + 1)] [] (stt g) K
    refine aw_goto (off := -15) (tgt := 4) (by decide +kernel) (by decide) ?_
    exact hF

set_option maxHeartbeats 1000000 in
theorem wpX12_order {Γ : Cfg} {l : Launch} {d b : Nat} {g : GG} {K : Ou → HP → Prop} {x1 : Int} {x2 : Int} (hF : (¬ (0 ≤ wr x1 ∧ wr x1 ≤ wr ((upd2 g 171 0 0) 172 0 - 1)) → K (.inl (vI 0)) (stt (upd2 (upd2 g 171 0 0) 171 0 1))) ∧ (¬ (¬ (0 ≤ wr x1 ∧ wr x1 ≤ wr ((upd2 g 171 0 0) 172 0 - 1))) → Ct Γ l (d + 1) 0 yX12_laysUnits mX12_laysUnits [vR 171, vI x1] (stt (upd2 g 171 0 0)) (bV (fun g1 => (wr (g1 171 27) ≤ 6 → AW Γ l mX12_order (d + 2) b 44 [vR 171, vI x1, vI x2, vI 0, vI (-1), vI 0, vU] [] (stt g1) K) ∧ (¬ (wr (g1 171 27) ≤ 6) → K (.inl (vI (-1))) (stt g1))) K))) : Ct Γ l (d + 2) b yX12_order mX12_order [vR 171, vI x1, vI x2] (stt g) K := by
  refine Ct.enter (L := [vR 171, vI x1, vI x2, vU, vU, vU, vU]) rfl rfl rfl (by decide +kernel) (by simp [oneSlot]) (Nat.le_of_ble_eq_true rfl) rfl ?_
  refine aw_aload_n (k' := 0) (by decide +kernel) rfl ?_
  refine aw_iconst (n := 0) (by decide +kernel) ?_
  refine pfX12_3 rfl (by decide +kernel) (OB.at (ci := 10) (show shp 171 = (20, 0) by decide +kernel) (by decide)) ?_
  show AW Γ l mX12_order (d + 2) b 5 [vR 171, vI x1, vI x2, vU, vU, vU, vU] [] (stt (upd2 g 171 0 0)) K
  refine aw_aload_n (k' := 0) (by decide +kernel) rfl ?_
  refine aw_aload_n (k' := 0) (by decide +kernel) rfl ?_
  refine aw_iload_n (k' := 1) (by decide +kernel) rfl ?_
  refine aw_callV (y := yX12_noPerson) (M2 := mX12_noPerson) (as := [vI x1]) (S := [vR 171]) (t := 171) (d2 := (d + 1)) (b2 := 0) (b3 := b) cwX12_noPerson mlX12_386 imX12_noPerson seX12_noPerson (by decide +kernel) rfl (ci := 10) rfl (OB.at (ci := 10) (show shp 171 = (20, 0) by decide +kernel) (by decide)) (Nat.le_refl _) (Nat.le_of_eq (Nat.zero_add _)) rfl rfl (by simp [oneSlot]) (Nat.le_of_ble_eq_true rfl) (c_noPerson (fun hc => ?_) (fun hc => ?_))
  · have hF := hF.1 hc
    show AW Γ l mX12_order (d + 2) b 11 [vR 171, vI x1, vI x2, vU, vU, vU, vU] [vI 1, vR 171] (stt (upd2 g 171 0 0)) K
    refine aw_iconst (n := 1) (by decide +kernel) ?_
    refine aw_callV (y := yX12_throwsIf) (M2 := mX12_throwsIf) (as := [vI 1, vI 1]) (S := []) (t := 171) (d2 := (d + 1)) (b2 := 0) (b3 := b) cwX12_throwsIf mlX12_279 imX12_throwsIf seX12_throwsIf (by decide +kernel) rfl (ci := 10) rfl (OB.at (ci := 10) (show shp 171 = (20, 0) by decide +kernel) (by decide)) (Nat.le_refl _) (Nat.le_of_eq (Nat.zero_add _)) rfl rfl (by simp [oneSlot]) (Nat.le_of_ble_eq_true rfl) (c_throwsIf1 ?_)
    show AW Γ l mX12_order (d + 2) b 15 [vR 171, vI x1, vI x2, vU, vU, vU, vU] [vI 1] (stt (upd2 (upd2 g 171 0 0) 171 0 1)) K
    refine ax_if_eq (off := 5) (tgt := 20) (x' := 1) (by decide +kernel) (by decide) (by decide +kernel) (fun hc => absurd hc (by decide)) (fun hc => ?_)
    refine aw_iconst (n := 0) (by decide +kernel) ?_
    exact aw_iret (by decide +kernel) rfl hF
  · have hF := hF.2 hc
    show AW Γ l mX12_order (d + 2) b 11 [vR 171, vI x1, vI x2, vU, vU, vU, vU] [vI 0, vR 171] (stt (upd2 g 171 0 0)) K
    refine aw_iconst (n := 1) (by decide +kernel) ?_
    refine aw_callV (y := yX12_throwsIf) (M2 := mX12_throwsIf) (as := [vI 0, vI 1]) (S := []) (t := 171) (d2 := (d + 1)) (b2 := 0) (b3 := b) cwX12_throwsIf mlX12_279 imX12_throwsIf seX12_throwsIf (by decide +kernel) rfl (ci := 10) rfl (OB.at (ci := 10) (show shp 171 = (20, 0) by decide +kernel) (by decide)) (Nat.le_refl _) (Nat.le_of_eq (Nat.zero_add _)) rfl rfl (by simp [oneSlot]) (Nat.le_of_ble_eq_true rfl) (c_throwsIf0 ?_)
    show AW Γ l mX12_order (d + 2) b 15 [vR 171, vI x1, vI x2, vU, vU, vU, vU] [vI 0] (stt (upd2 g 171 0 0)) K
    refine ax_if_eq (off := 5) (tgt := 20) (x' := 0) (by decide +kernel) (by decide) (by decide +kernel) (fun hc => ?_) (fun hc => absurd (by decide) hc)
    refine aw_aload_n (k' := 0) (by decide +kernel) rfl ?_
    refine aw_iload_n (k' := 1) (by decide +kernel) rfl ?_
    refine aw_callV (y := yX12_laysUnits) (M2 := mX12_laysUnits) (as := [vI x1]) (S := []) (t := 171) (d2 := (d + 1)) (b2 := 0) (b3 := b) cwX12_laysUnits mlX12_426 imX12_laysUnits seX12_laysUnits (by decide +kernel) rfl (ci := 10) rfl (OB.at (ci := 10) (show shp 171 = (20, 0) by decide +kernel) (by decide)) (Nat.le_refl _) (Nat.le_of_eq (Nat.zero_add _)) rfl rfl (by simp [oneSlot]) (Nat.le_of_ble_eq_true rfl) (Ct.mono hF ?_)
    rintro o h' (⟨g1, rfl, rfl, hG⟩ | ⟨E, g, rfl, rfl, hG⟩)
    · show AW Γ l mX12_order (d + 2) b 25 [vR 171, vI x1, vI x2, vU, vU, vU, vU] [] (stt g1) K
      refine aw_aload_n (k' := 0) (by decide +kernel) rfl ?_
      refine gfX12_420 rfl (by decide +kernel) (OB.at (ci := 10) (show shp 171 = (20, 0) by decide +kernel) (by decide)) ?_
      refine aw_bipush (n := 6) (by decide +kernel) (by decide +kernel) ?_
      refine ax_icmp_le (off := 5) (tgt := 36) (x' := wr (g1 171 27)) (y' := 6) (by decide +kernel) (by decide) rfl (by decide +kernel) (fun hc => ?_) (fun hc => ?_)
      · have hG := hG.1 hc
        refine aw_iconst (n := 0) (by decide +kernel) ?_
        refine aw_istore_n (k' := 3) (by decide +kernel) (by decide) ?_
        show AW Γ l mX12_order (d + 2) b 38 [vR 171, vI x1, vI x2, vI 0, vU, vU, vU] [] (stt g1) K
        refine aw_iconst (n := -1) (by decide +kernel) ?_
        refine aw_istore (i := 4) (by decide +kernel) (by decide) ?_
        show AW Γ l mX12_order (d + 2) b 41 [vR 171, vI x1, vI x2, vI 0, vI (-1), vU, vU] [] (stt g1) K
        refine aw_iconst (n := 0) (by decide +kernel) ?_
        refine aw_istore (i := 5) (by decide +kernel) (by decide) ?_
        show AW Γ l mX12_order (d + 2) b 44 [vR 171, vI x1, vI x2, vI 0, vI (-1), vI 0, vU] [] (stt g1) K
        exact hG
      · have hG := hG.2 hc
        refine aw_iconst (n := -1) (by decide +kernel) ?_
        exact aw_iret (by decide +kernel) rfl hG
    · exact hG
set_option maxHeartbeats 1000000 in
theorem wpX12_order_44 {Γ : Cfg} {l : Launch} {d b : Nat} {g : GG} {K : Ou → HP → Prop} {x1 : Int} {x2 : Int} {y3 : Int} {y4 : Int} {y5 : Int} (hF : Ct Γ l (d + 1) 0 yX12_orders mX12_orders [vR 171] (stt g) (bI (fun v1 g1 => (wr v1 ≤ wr y5 → (¬ wr x2 = -1 → Ct Γ l (d + 1) 0 yX12_laysOrder mX12_laysOrder [vR 171, vI y3] (stt g1) (bV (fun g2 => (0 ≤ wr x2 ∧ wr x2 ≤ wr ((g2 171 27) - 1) → (0 ≤ wr x2 ∧ wr x2 < 6) ∧ (K (.inl (vI (g2 184 (wr x2)))) (stt g2))) ∧ (¬ (0 ≤ wr x2 ∧ wr x2 ≤ wr ((g2 171 27) - 1)) → K (.inl (vI (-1))) (stt g2))) K)) ∧ (¬ (¬ wr x2 = -1) → K (.inl (vI y4)) (stt g1))) ∧ (¬ (wr v1 ≤ wr y5) → Ct Γ l (d + 1) 0 yX12_laysOrder mX12_laysOrder [vR 171, vI y5] (stt g1) (bV (fun g3 => Ct Γ l (d + 1) 0 yX12_putsInOrder mX12_putsInOrder [vR 171] (stt g3) (bV (fun g4 => Ct Γ l (d + 1) 0 yX12_sureOf mX12_sureOf [vR 171, vI x1] (stt g4) (bI (fun v2 g5 => (wr v2 ≤ wr y4 → AW Γ l mX12_order (d + 2) b 44 [vR 171, vI x1, vI x2, vI y3, vI (iMax y4 v2), vI (y5 + 1), vI v2] [] (stt g5) K) ∧ (¬ (wr v2 ≤ wr y4) → AW Γ l mX12_order (d + 2) b 44 [vR 171, vI x1, vI x2, vI y5, vI (iMax y4 v2), vI (y5 + 1), vI v2] [] (stt g5) K)) K)) K)) K))) K)) : AW Γ l mX12_order (d + 2) b 44 [vR 171, vI x1, vI x2, vI y3, vI y4, vI y5, vU] [] (stt g) K := by
  refine aw_iload (i := 5) (by decide +kernel) rfl ?_
  refine aw_aload_n (k' := 0) (by decide +kernel) rfl ?_
  refine aw_callV (y := yX12_orders) (M2 := mX12_orders) (as := []) (S := [vI y5]) (t := 171) (d2 := (d + 1)) (b2 := 0) (b3 := b) cwX12_orders mlX12_429 imX12_orders seX12_orders (by decide +kernel) rfl (ci := 10) rfl (OB.at (ci := 10) (show shp 171 = (20, 0) by decide +kernel) (by decide)) (Nat.le_refl _) (Nat.le_of_eq (Nat.zero_add _)) rfl rfl (by simp [oneSlot]) (Nat.le_of_ble_eq_true rfl) (Ct.mono hF ?_)
  rintro o h' (⟨v1, g1, rfl, rfl, hG⟩ | ⟨E, g, rfl, rfl, hG⟩)
  · show AW Γ l mX12_order (d + 2) b 50 [vR 171, vI x1, vI x2, vI y3, vI y4, vI y5, vU] [vI v1, vI y5] (stt g1) K
    refine ax_icmp_ge (off := 49) (tgt := 99) (x' := wr y5) (y' := wr v1) (by decide +kernel) (by decide) rfl rfl (fun hc => ?_) (fun hc => ?_)
    · have hG := hG.1 hc
      refine aw_iload_n (k' := 2) (by decide +kernel) rfl ?_
      refine aw_iconst (n := -1) (by decide +kernel) ?_
      refine ax_icmp_ne (off := 6) (tgt := 107) (x' := wr x2) (y' := -1) (by decide +kernel) (by decide) rfl (by decide +kernel) (fun hc => ?_) (fun hc => ?_)
      · have hG := hG.1 hc
        refine aw_aload_n (k' := 0) (by decide +kernel) rfl ?_
        refine aw_iload_n (k' := 3) (by decide +kernel) rfl ?_
        refine aw_callV (y := yX12_laysOrder) (M2 := mX12_laysOrder) (as := [vI y3]) (S := []) (t := 171) (d2 := (d + 1)) (b2 := 0) (b3 := b) cwX12_laysOrder mlX12_432 imX12_laysOrder seX12_laysOrder (by decide +kernel) rfl (ci := 10) rfl (OB.at (ci := 10) (show shp 171 = (20, 0) by decide +kernel) (by decide)) (Nat.le_refl _) (Nat.le_of_eq (Nat.zero_add _)) rfl rfl (by simp [oneSlot]) (Nat.le_of_ble_eq_true rfl) (Ct.mono hG ?_)
        rintro o h' (⟨g2, rfl, rfl, hG⟩ | ⟨E, g, rfl, rfl, hG⟩)
        · show AW Γ l mX12_order (d + 2) b 112 [vR 171, vI x1, vI x2, vI y3, vI y4, vI y5, vU] [] (stt g2) K
          refine aw_iload_n (k' := 2) (by decide +kernel) rfl ?_
          refine aw_iconst (n := 0) (by decide +kernel) ?_
          refine aw_aload_n (k' := 0) (by decide +kernel) rfl ?_
          refine gfX12_420 rfl (by decide +kernel) (OB.at (ci := 10) (show shp 171 = (20, 0) by decide +kernel) (by decide)) ?_
          refine aw_iconst (n := 1) (by decide +kernel) ?_
          refine aw_isub (by decide +kernel) ?_
          refine aw_callS (y := yX12_in) (M2 := mX12_in) (as := [vI x2, vI 0, vI ((g2 171 27) - 1)]) (S := []) (d2 := (d + 1)) (b2 := 0) (b3 := b) cwX12_in mlX12_91 stX12_in (by decide +kernel) rfl (Nat.le_refl _) (Nat.le_of_eq (Nat.zero_add _)) rfl rfl (by simp [oneSlot]) (Nat.le_of_ble_eq_true rfl) (c_in (x' := wr x2) (y' := 0) (z' := wr ((g2 171 27) - 1)) rfl (by decide +kernel) rfl (fun hc => ?_) (fun hc => ?_))
          · have hG := hG.1 hc
            show AW Γ l mX12_order (d + 2) b 123 [vR 171, vI x1, vI x2, vI y3, vI y4, vI y5, vU] [vI 1] (stt g2) K
            refine ax_if_eq (off := 12) (tgt := 135) (x' := 1) (by decide +kernel) (by decide) (by decide +kernel) (fun hc => absurd hc (by decide)) (fun hc => ?_)
            refine aw_aload_n (k' := 0) (by decide +kernel) rfl ?_
            refine gfX12_54 rfl (by decide +kernel) (OB.at (ci := 10) (show shp 171 = (20, 0) by decide +kernel) (by decide)) ?_
            refine AW.topR (show RC 171 28 = 184 by decide +kernel) ?_
            refine aw_iload_n (k' := 2) (by decide +kernel) rfl ?_
            refine ax_iald (i := wr x2) (by decide +kernel) (isA_lit (show shp 184 = (0, 6) by decide +kernel) (by decide)) rfl hG.1 ?_
            replace hG := hG.2
            refine aw_goto (off := 4) (tgt := 136) (by decide +kernel) (by decide) ?_
            exact aw_iret (by decide +kernel) rfl hG
          · have hG := hG.2 hc
            show AW Γ l mX12_order (d + 2) b 123 [vR 171, vI x1, vI x2, vI y3, vI y4, vI y5, vU] [vI 0] (stt g2) K
            refine ax_if_eq (off := 12) (tgt := 135) (x' := 0) (by decide +kernel) (by decide) (by decide +kernel) (fun hc => ?_) (fun hc => absurd (by decide) hc)
            refine aw_iconst (n := -1) (by decide +kernel) ?_
            exact aw_iret (by decide +kernel) rfl hG
        · exact hG
      · have hG := hG.2 hc
        refine aw_iload (i := 4) (by decide +kernel) rfl ?_
        exact aw_iret (by decide +kernel) rfl hG
    · have hG := hG.2 hc
      refine aw_aload_n (k' := 0) (by decide +kernel) rfl ?_
      refine aw_iload (i := 5) (by decide +kernel) rfl ?_
      refine aw_callV (y := yX12_laysOrder) (M2 := mX12_laysOrder) (as := [vI y5]) (S := []) (t := 171) (d2 := (d + 1)) (b2 := 0) (b3 := b) cwX12_laysOrder mlX12_432 imX12_laysOrder seX12_laysOrder (by decide +kernel) rfl (ci := 10) rfl (OB.at (ci := 10) (show shp 171 = (20, 0) by decide +kernel) (by decide)) (Nat.le_refl _) (Nat.le_of_eq (Nat.zero_add _)) rfl rfl (by simp [oneSlot]) (Nat.le_of_ble_eq_true rfl) (Ct.mono hG ?_)
      rintro o h' (⟨g3, rfl, rfl, hG⟩ | ⟨E, g, rfl, rfl, hG⟩)
      · show AW Γ l mX12_order (d + 2) b 59 [vR 171, vI x1, vI x2, vI y3, vI y4, vI y5, vU] [] (stt g3) K
        refine aw_aload_n (k' := 0) (by decide +kernel) rfl ?_
        refine aw_callV (y := yX12_putsInOrder) (M2 := mX12_putsInOrder) (as := []) (S := []) (t := 171) (d2 := (d + 1)) (b2 := 0) (b3 := b) cwX12_putsInOrder mlX12_435 imX12_putsInOrder seX12_putsInOrder (by decide +kernel) rfl (ci := 10) rfl (OB.at (ci := 10) (show shp 171 = (20, 0) by decide +kernel) (by decide)) (Nat.le_refl _) (Nat.le_of_eq (Nat.zero_add _)) rfl rfl (by simp [oneSlot]) (Nat.le_of_ble_eq_true rfl) (Ct.mono hG ?_)
        rintro o h' (⟨g4, rfl, rfl, hG⟩ | ⟨E, g, rfl, rfl, hG⟩)
        · show AW Γ l mX12_order (d + 2) b 63 [vR 171, vI x1, vI x2, vI y3, vI y4, vI y5, vU] [] (stt g4) K
          refine aw_aload_n (k' := 0) (by decide +kernel) rfl ?_
          refine aw_iload_n (k' := 1) (by decide +kernel) rfl ?_
          refine aw_callV (y := yX12_sureOf) (M2 := mX12_sureOf) (as := [vI x1]) (S := []) (t := 171) (d2 := (d + 1)) (b2 := 0) (b3 := b) cwX12_sureOf mlX12_393 imX12_sureOf seX12_sureOf (by decide +kernel) rfl (ci := 10) rfl (OB.at (ci := 10) (show shp 171 = (20, 0) by decide +kernel) (by decide)) (Nat.le_refl _) (Nat.le_of_eq (Nat.zero_add _)) rfl rfl (by simp [oneSlot]) (Nat.le_of_ble_eq_true rfl) (Ct.mono hG ?_)
          rintro o h' (⟨v2, g5, rfl, rfl, hG⟩ | ⟨E, g, rfl, rfl, hG⟩)
          · show AW Γ l mX12_order (d + 2) b 68 [vR 171, vI x1, vI x2, vI y3, vI y4, vI y5, vU] [vI v2] (stt g5) K
            refine aw_istore (i := 6) (by decide +kernel) (by decide) ?_
            show AW Γ l mX12_order (d + 2) b 70 [vR 171, vI x1, vI x2, vI y3, vI y4, vI y5, vI v2] [] (stt g5) K
            refine aw_iload (i := 6) (by decide +kernel) rfl ?_
            refine aw_iload (i := 4) (by decide +kernel) rfl ?_
            refine ax_icmp_le (off := 8) (tgt := 82) (x' := wr v2) (y' := wr y4) (by decide +kernel) (by decide) rfl rfl (fun hc => ?_) (fun hc => ?_)
            · have hG := hG.1 hc
              refine aw_iload_n (k' := 3) (by decide +kernel) rfl ?_
              refine aw_istore_n (k' := 3) (by decide +kernel) (by decide) ?_
              show AW Γ l mX12_order (d + 2) b 84 [vR 171, vI x1, vI x2, vI y3, vI y4, vI y5, vI v2] [] (stt g5) K
              refine aw_iload (i := 4) (by decide +kernel) rfl ?_
              refine aw_iload (i := 6) (by decide +kernel) rfl ?_
              refine aw_mmax (by decide +kernel) mlX12_327 stJ9_max_7cf53 cwM_init cwM_max (by simp [oneSlot]) (Nat.le_of_ble_eq_true rfl) ?_
              refine aw_istore (i := 4) (by decide +kernel) (by decide) ?_
              show AW Γ l mX12_order (d + 2) b 93 [vR 171, vI x1, vI x2, vI y3, vI (iMax y4 v2), vI y5, vI v2] [] (stt g5) K
              refine aw_iinc (i := 5) (n := 1) (by decide +kernel) rfl (by decide) ?_
              show AW Γ l mX12_order (d + 2) b 96 [vR 171, vI x1, vI x2, vI y3, vI (iMax y4 v2), vI (y5 + 1), vI v2] [] (stt g5) K
              refine aw_goto (off := -52) (tgt := 44) (by decide +kernel) (by decide) ?_
              exact hG
            · have hG := hG.2 hc
              refine aw_iload (i := 5) (by decide +kernel) rfl ?_
              refine aw_goto (off := 4) (tgt := 83) (by decide +kernel) (by decide) ?_
              refine aw_istore_n (k' := 3) (by decide +kernel) (by decide) ?_
              show AW Γ l mX12_order (d + 2) b 84 [vR 171, vI x1, vI x2, vI y5, vI y4, vI y5, vI v2] [] (stt g5) K
              refine aw_iload (i := 4) (by decide +kernel) rfl ?_
              refine aw_iload (i := 6) (by decide +kernel) rfl ?_
              refine aw_mmax (by decide +kernel) mlX12_327 stJ9_max_7cf53 cwM_init cwM_max (by simp [oneSlot]) (Nat.le_of_ble_eq_true rfl) ?_
              refine aw_istore (i := 4) (by decide +kernel) (by decide) ?_
              show AW Γ l mX12_order (d + 2) b 93 [vR 171, vI x1, vI x2, vI y5, vI (iMax y4 v2), vI y5, vI v2] [] (stt g5) K
              refine aw_iinc (i := 5) (n := 1) (by decide +kernel) rfl (by decide) ?_
              show AW Γ l mX12_order (d + 2) b 96 [vR 171, vI x1, vI x2, vI y5, vI (iMax y4 v2), vI (y5 + 1), vI v2] [] (stt g5) K
              refine aw_goto (off := -52) (tgt := 44) (by decide +kernel) (by decide) ?_
              exact hG
          · exact hG
        · exact hG
      · exact hG
  · exact hG

set_option maxHeartbeats 1000000 in
theorem wpX12_fence {Γ : Cfg} {l : Launch} {d b : Nat} {g : GG} {K : Ou → HP → Prop} {x1 : Int} {x2 : Int} (hF : (¬ (0 ≤ wr x1 ∧ wr x1 ≤ wr ((upd2 g 171 0 0) 172 0 - 1)) → K (.inl (vI 0)) (stt (upd2 (upd2 g 171 0 0) 171 0 1))) ∧ (¬ (¬ (0 ≤ wr x1 ∧ wr x1 ≤ wr ((upd2 g 171 0 0) 172 0 - 1))) → (0 ≤ wr x2 ∧ wr x2 ≤ 100 → AW Γ l mX12_fence (d + 2) b 49 [vR 171, vI x1, vI x2, vI (-1), vI 9, vU, vU] [] (stt (upd2 g 171 0 0)) K) ∧ (¬ (0 ≤ wr x2 ∧ wr x2 ≤ 100) → K (.inl (vI 0)) (stt (upd2 (upd2 g 171 0 0) 171 0 2))))) : Ct Γ l (d + 2) b yX12_fence mX12_fence [vR 171, vI x1, vI x2] (stt g) K := by
  refine Ct.enter (L := [vR 171, vI x1, vI x2, vU, vU, vU, vU]) rfl rfl rfl (by decide +kernel) (by simp [oneSlot]) (Nat.le_of_ble_eq_true rfl) rfl ?_
  refine aw_aload_n (k' := 0) (by decide +kernel) rfl ?_
  refine aw_iconst (n := 0) (by decide +kernel) ?_
  refine pfX12_3 rfl (by decide +kernel) (OB.at (ci := 10) (show shp 171 = (20, 0) by decide +kernel) (by decide)) ?_
  show AW Γ l mX12_fence (d + 2) b 5 [vR 171, vI x1, vI x2, vU, vU, vU, vU] [] (stt (upd2 g 171 0 0)) K
  refine aw_aload_n (k' := 0) (by decide +kernel) rfl ?_
  refine aw_aload_n (k' := 0) (by decide +kernel) rfl ?_
  refine aw_iload_n (k' := 1) (by decide +kernel) rfl ?_
  refine aw_callV (y := yX12_noPerson) (M2 := mX12_noPerson) (as := [vI x1]) (S := [vR 171]) (t := 171) (d2 := (d + 1)) (b2 := 0) (b3 := b) cwX12_noPerson mlX12_386 imX12_noPerson seX12_noPerson (by decide +kernel) rfl (ci := 10) rfl (OB.at (ci := 10) (show shp 171 = (20, 0) by decide +kernel) (by decide)) (Nat.le_refl _) (Nat.le_of_eq (Nat.zero_add _)) rfl rfl (by simp [oneSlot]) (Nat.le_of_ble_eq_true rfl) (c_noPerson (fun hc => ?_) (fun hc => ?_))
  · have hF := hF.1 hc
    show AW Γ l mX12_fence (d + 2) b 11 [vR 171, vI x1, vI x2, vU, vU, vU, vU] [vI 1, vR 171] (stt (upd2 g 171 0 0)) K
    refine aw_iconst (n := 1) (by decide +kernel) ?_
    refine aw_callV (y := yX12_throwsIf) (M2 := mX12_throwsIf) (as := [vI 1, vI 1]) (S := []) (t := 171) (d2 := (d + 1)) (b2 := 0) (b3 := b) cwX12_throwsIf mlX12_279 imX12_throwsIf seX12_throwsIf (by decide +kernel) rfl (ci := 10) rfl (OB.at (ci := 10) (show shp 171 = (20, 0) by decide +kernel) (by decide)) (Nat.le_refl _) (Nat.le_of_eq (Nat.zero_add _)) rfl rfl (by simp [oneSlot]) (Nat.le_of_ble_eq_true rfl) (c_throwsIf1 ?_)
    show AW Γ l mX12_fence (d + 2) b 15 [vR 171, vI x1, vI x2, vU, vU, vU, vU] [vI 1] (stt (upd2 (upd2 g 171 0 0) 171 0 1)) K
    refine ax_if_ne (off := 26) (tgt := 41) (x' := 1) (by decide +kernel) (by decide) (by decide +kernel) (fun hc => ?_) (fun hc => absurd (by decide) hc)
    refine aw_iconst (n := 0) (by decide +kernel) ?_
    exact aw_iret (by decide +kernel) rfl hF
  · have hF := hF.2 hc
    show AW Γ l mX12_fence (d + 2) b 11 [vR 171, vI x1, vI x2, vU, vU, vU, vU] [vI 0, vR 171] (stt (upd2 g 171 0 0)) K
    refine aw_iconst (n := 1) (by decide +kernel) ?_
    refine aw_callV (y := yX12_throwsIf) (M2 := mX12_throwsIf) (as := [vI 0, vI 1]) (S := []) (t := 171) (d2 := (d + 1)) (b2 := 0) (b3 := b) cwX12_throwsIf mlX12_279 imX12_throwsIf seX12_throwsIf (by decide +kernel) rfl (ci := 10) rfl (OB.at (ci := 10) (show shp 171 = (20, 0) by decide +kernel) (by decide)) (Nat.le_refl _) (Nat.le_of_eq (Nat.zero_add _)) rfl rfl (by simp [oneSlot]) (Nat.le_of_ble_eq_true rfl) (c_throwsIf0 ?_)
    show AW Γ l mX12_fence (d + 2) b 15 [vR 171, vI x1, vI x2, vU, vU, vU, vU] [vI 0] (stt (upd2 g 171 0 0)) K
    refine ax_if_ne (off := 26) (tgt := 41) (x' := 0) (by decide +kernel) (by decide) (by decide +kernel) (fun hc => absurd hc (by decide)) (fun hc => ?_)
    refine aw_aload_n (k' := 0) (by decide +kernel) rfl ?_
    refine aw_iload_n (k' := 2) (by decide +kernel) rfl ?_
    refine aw_iconst (n := 0) (by decide +kernel) ?_
    refine aw_bipush (n := 100) (by decide +kernel) (by decide +kernel) ?_
    refine aw_callS (y := yX12_in) (M2 := mX12_in) (as := [vI x2, vI 0, vI 100]) (S := [vR 171]) (d2 := (d + 1)) (b2 := 0) (b3 := b) cwX12_in mlX12_91 stX12_in (by decide +kernel) rfl (Nat.le_refl _) (Nat.le_of_eq (Nat.zero_add _)) rfl rfl (by simp [oneSlot]) (Nat.le_of_ble_eq_true rfl) (c_in (x' := wr x2) (y' := 0) (z' := 100) rfl (by decide +kernel) (by decide +kernel) (fun hc => ?_) (fun hc => ?_))
    · have hF := hF.1 hc
      show AW Γ l mX12_fence (d + 2) b 26 [vR 171, vI x1, vI x2, vU, vU, vU, vU] [vI 1, vR 171] (stt (upd2 g 171 0 0)) K
      refine ax_if_ne (off := 7) (tgt := 33) (x' := 1) (by decide +kernel) (by decide) (by decide +kernel) (fun hc => ?_) (fun hc => absurd (by decide) hc)
      refine aw_iconst (n := 0) (by decide +kernel) ?_
      refine aw_iconst (n := 2) (by decide +kernel) ?_
      refine aw_callV (y := yX12_throwsIf) (M2 := mX12_throwsIf) (as := [vI 0, vI 2]) (S := []) (t := 171) (d2 := (d + 1)) (b2 := 0) (b3 := b) cwX12_throwsIf mlX12_279 imX12_throwsIf seX12_throwsIf (by decide +kernel) rfl (ci := 10) rfl (OB.at (ci := 10) (show shp 171 = (20, 0) by decide +kernel) (by decide)) (Nat.le_refl _) (Nat.le_of_eq (Nat.zero_add _)) rfl rfl (by simp [oneSlot]) (Nat.le_of_ble_eq_true rfl) (c_throwsIf0 ?_)
      show AW Γ l mX12_fence (d + 2) b 38 [vR 171, vI x1, vI x2, vU, vU, vU, vU] [vI 0] (stt (upd2 g 171 0 0)) K
      refine ax_if_eq (off := 5) (tgt := 43) (x' := 0) (by decide +kernel) (by decide) (by decide +kernel) (fun hc => ?_) (fun hc => absurd (by decide) hc)
      refine aw_iconst (n := -1) (by decide +kernel) ?_
      refine aw_istore_n (k' := 3) (by decide +kernel) (by decide) ?_
      show AW Γ l mX12_fence (d + 2) b 45 [vR 171, vI x1, vI x2, vI (-1), vU, vU, vU] [] (stt (upd2 g 171 0 0)) K
      refine aw_bipush (n := 9) (by decide +kernel) (by decide +kernel) ?_
      refine aw_istore (i := 4) (by decide +kernel) (by decide) ?_
      show AW Γ l mX12_fence (d + 2) b 49 [vR 171, vI x1, vI x2, vI (-1), vI 9, vU, vU] [] (stt (upd2 g 171 0 0)) K
      exact hF
    · have hF := hF.2 hc
      show AW Γ l mX12_fence (d + 2) b 26 [vR 171, vI x1, vI x2, vU, vU, vU, vU] [vI 0, vR 171] (stt (upd2 g 171 0 0)) K
      refine ax_if_ne (off := 7) (tgt := 33) (x' := 0) (by decide +kernel) (by decide) (by decide +kernel) (fun hc => absurd hc (by decide)) (fun hc => ?_)
      refine aw_iconst (n := 1) (by decide +kernel) ?_
      refine aw_goto (off := 4) (tgt := 34) (by decide +kernel) (by decide) ?_
      refine aw_iconst (n := 2) (by decide +kernel) ?_
      refine aw_callV (y := yX12_throwsIf) (M2 := mX12_throwsIf) (as := [vI 1, vI 2]) (S := []) (t := 171) (d2 := (d + 1)) (b2 := 0) (b3 := b) cwX12_throwsIf mlX12_279 imX12_throwsIf seX12_throwsIf (by decide +kernel) rfl (ci := 10) rfl (OB.at (ci := 10) (show shp 171 = (20, 0) by decide +kernel) (by decide)) (Nat.le_refl _) (Nat.le_of_eq (Nat.zero_add _)) rfl rfl (by simp [oneSlot]) (Nat.le_of_ble_eq_true rfl) (c_throwsIf1 ?_)
      show AW Γ l mX12_fence (d + 2) b 38 [vR 171, vI x1, vI x2, vU, vU, vU, vU] [vI 1] (stt (upd2 (upd2 g 171 0 0) 171 0 2)) K
      refine ax_if_eq (off := 5) (tgt := 43) (x' := 1) (by decide +kernel) (by decide) (by decide +kernel) (fun hc => absurd hc (by decide)) (fun hc => ?_)
      refine aw_iconst (n := 0) (by decide +kernel) ?_
      exact aw_iret (by decide +kernel) rfl hF
set_option maxHeartbeats 1000000 in
theorem wpX12_fence_49 {Γ : Cfg} {l : Launch} {d b : Nat} {g : GG} {K : Ou → HP → Prop} {x1 : Int} {x2 : Int} {y3 : Int} {y4 : Int} (hF : (wr y4 < 0 → K (.inl (vI y3)) (stt g)) ∧ (¬ (wr y4 < 0) → AW Γ l mX12_fence (d + 2) b 62 [vR 171, vI x1, vI x2, vI y3, vI y4, vI 10000, vI 0] [] (stt g) K)) : AW Γ l mX12_fence (d + 2) b 49 [vR 171, vI x1, vI x2, vI y3, vI y4, vU, vU] [] (stt g) K := by
  refine aw_iload (i := 4) (by decide +kernel) rfl ?_
  refine ax_if_lt (off := 71) (tgt := 122) (x' := wr y4) (by decide +kernel) (by decide) rfl (fun hc => ?_) (fun hc => ?_)
  · have hF := hF.1 hc
    refine aw_iload_n (k' := 3) (by decide +kernel) rfl ?_
    exact aw_iret (by decide +kernel) rfl hF
  · have hF := hF.2 hc
    refine aw_sipush (n := 10000) (by decide +kernel) (by decide +kernel) ?_
    refine aw_istore (i := 5) (by decide +kernel) (by decide) ?_
    show AW Γ l mX12_fence (d + 2) b 59 [vR 171, vI x1, vI x2, vI y3, vI y4, vI 10000, vU] [] (stt g) K
    refine aw_iconst (n := 0) (by decide +kernel) ?_
    refine aw_istore (i := 6) (by decide +kernel) (by decide) ?_
    show AW Γ l mX12_fence (d + 2) b 62 [vR 171, vI x1, vI x2, vI y3, vI y4, vI 10000, vI 0] [] (stt g) K
    exact hF
set_option maxHeartbeats 1000000 in
theorem wpX12_fence_62 {Γ : Cfg} {l : Launch} {d b : Nat} {g : GG} {K : Ou → HP → Prop} {x1 : Int} {x2 : Int} {y3 : Int} {y4 : Int} {y5 : Int} {y6 : Int} (hF : Ct Γ l (d + 1) 0 yX12_needOf mX12_needOf [vR 171, vI x1] (stt g) (bI (fun v1 g1 => (wr v1 ≤ wr y6 → (wr y5 < wr (100 * x2) → AW Γ l mX12_fence (d + 2) b 49 [vR 171, vI x1, vI x2, vI y3, vI (y4 + (-1)), vI y5, vI y6] [] (stt g1) K) ∧ (¬ (wr y5 < wr (100 * x2)) → AW Γ l mX12_fence (d + 2) b 49 [vR 171, vI x1, vI x2, vI y4, vI (y4 + (-1)), vI y5, vI y6] [] (stt g1) K)) ∧ (¬ (wr v1 ≤ wr y6) → Ct Γ l (d + 1) 0 yX12_chanceOf mX12_chanceOf [vI (g1 172 3), vI y4] (stt g1) (bI (fun v2 g2 => AW Γ l mX12_fence (d + 2) b 62 [vR 171, vI x1, vI x2, vI y3, vI y4, vI (iDiv (y5 * (100 - v2)) 100), vI (y6 + 1)] [] (stt g2) K) K))) K)) : AW Γ l mX12_fence (d + 2) b 62 [vR 171, vI x1, vI x2, vI y3, vI y4, vI y5, vI y6] [] (stt g) K := by
  refine aw_iload (i := 6) (by decide +kernel) rfl ?_
  refine aw_aload_n (k' := 0) (by decide +kernel) rfl ?_
  refine aw_iload_n (k' := 1) (by decide +kernel) rfl ?_
  refine aw_callV (y := yX12_needOf) (M2 := mX12_needOf) (as := [vI x1]) (S := [vI y6]) (t := 171) (d2 := (d + 1)) (b2 := 0) (b3 := b) cwX12_needOf mlX12_396 imX12_needOf seX12_needOf (by decide +kernel) rfl (ci := 10) rfl (OB.at (ci := 10) (show shp 171 = (20, 0) by decide +kernel) (by decide)) (Nat.le_refl _) (Nat.le_of_eq (Nat.zero_add _)) rfl rfl (by simp [oneSlot]) (Nat.le_of_ble_eq_true rfl) (Ct.mono hF ?_)
  rintro o h' (⟨v1, g1, rfl, rfl, hG⟩ | ⟨E, g, rfl, rfl, hG⟩)
  · show AW Γ l mX12_fence (d + 2) b 69 [vR 171, vI x1, vI x2, vI y3, vI y4, vI y5, vI y6] [vI v1, vI y6] (stt g1) K
    refine ax_icmp_ge (off := 31) (tgt := 100) (x' := wr y6) (y' := wr v1) (by decide +kernel) (by decide) rfl rfl (fun hc => ?_) (fun hc => ?_)
    · have hG := hG.1 hc
      refine aw_iload (i := 5) (by decide +kernel) rfl ?_
      refine aw_bipush (n := 100) (by decide +kernel) (by decide +kernel) ?_
      refine aw_iload_n (k' := 2) (by decide +kernel) rfl ?_
      refine aw_imul (by decide +kernel) ?_
      refine ax_icmp_lt (off := 8) (tgt := 114) (x' := wr y5) (y' := wr (100 * x2)) (by decide +kernel) (by decide) rfl rfl (fun hc => ?_) (fun hc => ?_)
      · have hG := hG.1 hc
        refine aw_iload_n (k' := 3) (by decide +kernel) rfl ?_
        refine aw_istore_n (k' := 3) (by decide +kernel) (by decide) ?_
        show AW Γ l mX12_fence (d + 2) b 116 [vR 171, vI x1, vI x2, vI y3, vI y4, vI y5, vI y6] [] (stt g1) K
        refine aw_iinc (i := 4) (n := -1) (by decide +kernel) rfl (by decide) ?_
        show AW Γ l mX12_fence (d + 2) b 119 [vR 171, vI x1, vI x2, vI y3, vI (y4 + (-1)), vI y5, vI y6] [] (stt g1) K
        refine aw_goto (off := -70) (tgt := 49) (by decide +kernel) (by decide) ?_
        exact hG
      · have hG := hG.2 hc
        refine aw_iload (i := 4) (by decide +kernel) rfl ?_
        refine aw_goto (off := 4) (tgt := 115) (by decide +kernel) (by decide) ?_
        refine aw_istore_n (k' := 3) (by decide +kernel) (by decide) ?_
        show AW Γ l mX12_fence (d + 2) b 116 [vR 171, vI x1, vI x2, vI y4, vI y4, vI y5, vI y6] [] (stt g1) K
        refine aw_iinc (i := 4) (n := -1) (by decide +kernel) rfl (by decide) ?_
        show AW Γ l mX12_fence (d + 2) b 119 [vR 171, vI x1, vI x2, vI y4, vI (y4 + (-1)), vI y5, vI y6] [] (stt g1) K
        refine aw_goto (off := -70) (tgt := 49) (by decide +kernel) (by decide) ?_
        exact hG
    · have hG := hG.2 hc
      refine aw_iload (i := 5) (by decide +kernel) rfl ?_
      refine aw_bipush (n := 100) (by decide +kernel) (by decide +kernel) ?_
      refine aw_aload_n (k' := 0) (by decide +kernel) rfl ?_
      refine gfX12_13 rfl (by decide +kernel) (OB.at (ci := 10) (show shp 171 = (20, 0) by decide +kernel) (by decide)) ?_
      refine AW.topR (show RC 171 1 = 172 by decide +kernel) ?_
      refine aw_iconst (n := 3) (by decide +kernel) ?_
      refine ax_iald (i := 3) (by decide +kernel) (isA_lit (show shp 172 = (0, 2184) by decide +kernel) (by decide)) (by decide +kernel) ⟨by decide, by decide⟩ ?_
      refine aw_iload (i := 4) (by decide +kernel) rfl ?_
      refine aw_callS (y := yX12_chanceOf) (M2 := mX12_chanceOf) (as := [vI (g1 172 3), vI y4]) (S := [vI 100, vI y5]) (d2 := (d + 1)) (b2 := 0) (b3 := b) cwX12_chanceOf mlX12_365 stX12_chanceOf (by decide +kernel) rfl (Nat.le_refl _) (Nat.le_of_eq (Nat.zero_add _)) rfl rfl (by simp [oneSlot]) (Nat.le_of_ble_eq_true rfl) (Ct.mono hG ?_)
      rintro o h' (⟨v2, g2, rfl, rfl, hG⟩ | ⟨E, g, rfl, rfl, hG⟩)
      · show AW Γ l mX12_fence (d + 2) b 87 [vR 171, vI x1, vI x2, vI y3, vI y4, vI y5, vI y6] [vI v2, vI 100, vI y5] (stt g2) K
        refine aw_isub (by decide +kernel) ?_
        refine aw_imul (by decide +kernel) ?_
        refine aw_bipush (n := 100) (by decide +kernel) (by decide +kernel) ?_
        refine aw_idiv (by decide +kernel) (by decide +kernel) ?_
        refine aw_istore (i := 5) (by decide +kernel) (by decide) ?_
        show AW Γ l mX12_fence (d + 2) b 94 [vR 171, vI x1, vI x2, vI y3, vI y4, vI (iDiv (y5 * (100 - v2)) 100), vI y6] [] (stt g2) K
        refine aw_iinc (i := 6) (n := 1) (by decide +kernel) rfl (by decide) ?_
        show AW Γ l mX12_fence (d + 2) b 97 [vR 171, vI x1, vI x2, vI y3, vI y4, vI (iDiv (y5 * (100 - v2)) 100), vI (y6 + 1)] [] (stt g2) K
        refine aw_goto (off := -35) (tgt := 62) (by decide +kernel) (by decide) ?_
        exact hG
      · exact hG
  · exact hG

set_option maxHeartbeats 1000000 in
theorem wpX12_laysHeld {Γ : Cfg} {l : Launch} {d b : Nat} {g : GG} {K : Ou → HP → Prop}  (hF : Ct Γ l d 0 yX12_inOrder mX12_inOrder [vR 171] (stt g) (bV (fun g1 => AW Γ l mX12_laysHeld (d + 1) b 6 [vR 171, vI 0] [] (stt g1) K) K)) : Ct Γ l (d + 1) b yX12_laysHeld mX12_laysHeld [vR 171] (stt g) K := by
  refine Ct.enter (L := [vR 171, vU]) rfl rfl rfl (by decide +kernel) (by simp [oneSlot]) (Nat.le_of_ble_eq_true rfl) rfl ?_
  refine aw_aload_n (k' := 0) (by decide +kernel) rfl ?_
  refine aw_callV (y := yX12_inOrder) (M2 := mX12_inOrder) (as := []) (S := []) (t := 171) (d2 := d) (b2 := 0) (b3 := b) cwX12_inOrder mlX12_377 imX12_inOrder seX12_inOrder (by decide +kernel) rfl (ci := 10) rfl (OB.at (ci := 10) (show shp 171 = (20, 0) by decide +kernel) (by decide)) (Nat.le_refl _) (Nat.le_of_eq (Nat.zero_add _)) rfl rfl (by simp [oneSlot]) (Nat.le_of_ble_eq_true rfl) (Ct.mono hF ?_)
  rintro o h' (⟨g1, rfl, rfl, hG⟩ | ⟨E, g, rfl, rfl, hG⟩)
  · show AW Γ l mX12_laysHeld (d + 1) b 4 [vR 171, vU] [] (stt g1) K
    refine aw_iconst (n := 0) (by decide +kernel) ?_
    refine aw_istore_n (k' := 1) (by decide +kernel) (by decide) ?_
    show AW Γ l mX12_laysHeld (d + 1) b 6 [vR 171, vI 0] [] (stt g1) K
    exact hG
  · exact hG
set_option maxHeartbeats 1000000 in
theorem wpX12_laysHeld_6 {Γ : Cfg} {l : Launch} {d b : Nat} {g : GG} {K : Ou → HP → Prop} {y1 : Int} (hF : (wr (g 172 0) ≤ wr y1 → K (.inl vU) (stt g)) ∧ (¬ (wr (g 172 0) ≤ wr y1) → Ct Γ l d 0 yX12_countsOf mX12_countsOf [vR 171, vI y1] (stt g) (bI (fun v1 g1 => Ct Γ l d 0 yX12_reads mX12_reads [vR 171, vI y1, vI v1] (stt g1) (bV (fun g2 => (0 ≤ wr y1 ∧ wr y1 < 6) ∧ ((0 ≤ wr y1 ∧ wr y1 < 6) ∧ (∀ g3 : GG, g3 = upd2 (upd2 g2 185 (wr y1) (g2 179 0)) 186 (wr y1) ((upd2 g2 185 (wr y1) (g2 179 0)) 179 4) → (0 ≤ wr y1 ∧ wr y1 < 6) ∧ (AW Γ l mX12_laysHeld (d + 1) b 6 [vR 171, vI (y1 + 1)] [] (stt (upd2 g3 187 (wr y1) (g3 179 5))) K)))) K)) K))) : AW Γ l mX12_laysHeld (d + 1) b 6 [vR 171, vI y1] [] (stt g) K := by
  refine aw_iload_n (k' := 1) (by decide +kernel) rfl ?_
  refine aw_aload_n (k' := 0) (by decide +kernel) rfl ?_
  refine aw_callV (y := yX12_people) (M2 := mX12_people) (as := []) (S := [vI y1]) (t := 171) (d2 := d) (b2 := 0) (b3 := b) cwX12_people mlX12_87 imX12_people seX12_people (by decide +kernel) rfl (ci := 10) rfl (OB.at (ci := 10) (show shp 171 = (20, 0) by decide +kernel) (by decide)) (Nat.le_refl _) (Nat.le_of_eq (Nat.zero_add _)) rfl rfl (by simp [oneSlot]) (Nat.le_of_ble_eq_true rfl) (c_people ?_)
  show AW Γ l mX12_laysHeld (d + 1) b 11 [vR 171, vI y1] [vI (g 172 0), vI y1] (stt g) K
  refine ax_icmp_ge (off := 55) (tgt := 66) (x' := wr y1) (y' := wr (g 172 0)) (by decide +kernel) (by decide) rfl rfl (fun hc => ?_) (fun hc => ?_)
  · have hF := hF.1 hc
    exact aw_vret (by decide +kernel) rfl hF
  · have hF := hF.2 hc
    refine aw_aload_n (k' := 0) (by decide +kernel) rfl ?_
    refine aw_iload_n (k' := 1) (by decide +kernel) rfl ?_
    refine aw_aload_n (k' := 0) (by decide +kernel) rfl ?_
    refine aw_iload_n (k' := 1) (by decide +kernel) rfl ?_
    refine aw_callV (y := yX12_countsOf) (M2 := mX12_countsOf) (as := [vI y1]) (S := [vI y1, vR 171]) (t := 171) (d2 := d) (b2 := 0) (b3 := b) cwX12_countsOf mlX12_380 imX12_countsOf seX12_countsOf (by decide +kernel) rfl (ci := 10) rfl (OB.at (ci := 10) (show shp 171 = (20, 0) by decide +kernel) (by decide)) (Nat.le_refl _) (Nat.le_of_eq (Nat.zero_add _)) rfl rfl (by simp [oneSlot]) (Nat.le_of_ble_eq_true rfl) (Ct.mono hF ?_)
    rintro o h' (⟨v1, g1, rfl, rfl, hG⟩ | ⟨E, g, rfl, rfl, hG⟩)
    · show AW Γ l mX12_laysHeld (d + 1) b 21 [vR 171, vI y1] [vI v1, vI y1, vR 171] (stt g1) K
      refine aw_callV (y := yX12_reads) (M2 := mX12_reads) (as := [vI y1, vI v1]) (S := []) (t := 171) (d2 := d) (b2 := 0) (b3 := b) cwX12_reads mlX12_336 imX12_reads seX12_reads (by decide +kernel) rfl (ci := 10) rfl (OB.at (ci := 10) (show shp 171 = (20, 0) by decide +kernel) (by decide)) (Nat.le_refl _) (Nat.le_of_eq (Nat.zero_add _)) rfl rfl (by simp [oneSlot]) (Nat.le_of_ble_eq_true rfl) (Ct.mono hG ?_)
      rintro o h' (⟨g2, rfl, rfl, hG⟩ | ⟨E, g, rfl, rfl, hG⟩)
      · show AW Γ l mX12_laysHeld (d + 1) b 24 [vR 171, vI y1] [] (stt g2) K
        refine aw_aload_n (k' := 0) (by decide +kernel) rfl ?_
        refine gfX12_57 rfl (by decide +kernel) (OB.at (ci := 10) (show shp 171 = (20, 0) by decide +kernel) (by decide)) ?_
        refine AW.topR (show RC 171 29 = 185 by decide +kernel) ?_
        refine aw_iload_n (k' := 1) (by decide +kernel) rfl ?_
        refine aw_aload_n (k' := 0) (by decide +kernel) rfl ?_
        refine gfX12_39 rfl (by decide +kernel) (OB.at (ci := 10) (show shp 171 = (20, 0) by decide +kernel) (by decide)) ?_
        refine AW.topR (show RC 171 18 = 179 by decide +kernel) ?_
        refine aw_iconst (n := 0) (by decide +kernel) ?_
        refine ax_iald (i := 0) (by decide +kernel) (isA_lit (show shp 179 = (0, 30) by decide +kernel) (by decide)) (by decide +kernel) ⟨by decide, by decide⟩ ?_
        refine ax_iast (i := wr y1) (by decide +kernel) (isA_lit (show shp 185 = (0, 6) by decide +kernel) (by decide)) rfl hG.1 ?_
        show AW Γ l mX12_laysHeld (d + 1) b 36 [vR 171, vI y1] [] (stt (upd2 g2 185 (wr y1) (g2 179 0))) K
        replace hG := hG.2
        refine aw_aload_n (k' := 0) (by decide +kernel) rfl ?_
        refine gfX12_60 rfl (by decide +kernel) (OB.at (ci := 10) (show shp 171 = (20, 0) by decide +kernel) (by decide)) ?_
        refine AW.topR (show RC 171 30 = 186 by decide +kernel) ?_
        refine aw_iload_n (k' := 1) (by decide +kernel) rfl ?_
        refine aw_aload_n (k' := 0) (by decide +kernel) rfl ?_
        refine gfX12_39 rfl (by decide +kernel) (OB.at (ci := 10) (show shp 171 = (20, 0) by decide +kernel) (by decide)) ?_
        refine AW.topR (show RC 171 18 = 179 by decide +kernel) ?_
        refine aw_iconst (n := 4) (by decide +kernel) ?_
        refine ax_iald (i := 4) (by decide +kernel) (isA_lit (show shp 179 = (0, 30) by decide +kernel) (by decide)) (by decide +kernel) ⟨by decide, by decide⟩ ?_
        refine ax_iast (i := wr y1) (by decide +kernel) (isA_lit (show shp 186 = (0, 6) by decide +kernel) (by decide)) rfl hG.1 ?_
        show AW Γ l mX12_laysHeld (d + 1) b 48 [vR 171, vI y1] [] (stt (upd2 (upd2 g2 185 (wr y1) (g2 179 0)) 186 (wr y1) ((upd2 g2 185 (wr y1) (g2 179 0)) 179 4))) K
        replace hG := hG.2
        show AW Γ l mX12_laysHeld (d + 1) b 48 [vR 171, vI y1] [] (stt (upd2 (upd2 g2 185 (wr y1) (g2 179 0)) 186 (wr y1) ((upd2 g2 185 (wr y1) (g2 179 0)) 179 4))) K
        generalize eg3 : upd2 (upd2 g2 185 (wr y1) (g2 179 0)) 186 (wr y1) ((upd2 g2 185 (wr y1) (g2 179 0)) 179 4) = g3
        replace hG := hG g3 eg3.symm
        refine aw_aload_n (k' := 0) (by decide +kernel) rfl ?_
        refine gfX12_63 rfl (by decide +kernel) (OB.at (ci := 10) (show shp 171 = (20, 0) by decide +kernel) (by decide)) ?_
        refine AW.topR (show RC 171 31 = 187 by decide +kernel) ?_
        refine aw_iload_n (k' := 1) (by decide +kernel) rfl ?_
        refine aw_aload_n (k' := 0) (by decide +kernel) rfl ?_
        refine gfX12_39 rfl (by decide +kernel) (OB.at (ci := 10) (show shp 171 = (20, 0) by decide +kernel) (by decide)) ?_
        refine AW.topR (show RC 171 18 = 179 by decide +kernel) ?_
        refine aw_iconst (n := 5) (by decide +kernel) ?_
        refine ax_iald (i := 5) (by decide +kernel) (isA_lit (show shp 179 = (0, 30) by decide +kernel) (by decide)) (by decide +kernel) ⟨by decide, by decide⟩ ?_
        refine ax_iast (i := wr y1) (by decide +kernel) (isA_lit (show shp 187 = (0, 6) by decide +kernel) (by decide)) rfl hG.1 ?_
        show AW Γ l mX12_laysHeld (d + 1) b 60 [vR 171, vI y1] [] (stt (upd2 g3 187 (wr y1) (g3 179 5))) K
        replace hG := hG.2
        refine aw_iinc (i := 1) (n := 1) (by decide +kernel) rfl (by decide) ?_
        show AW Γ l mX12_laysHeld (d + 1) b 63 [vR 171, vI (y1 + 1)] [] (stt (upd2 g3 187 (wr y1) (g3 179 5))) K
        refine aw_goto (off := -57) (tgt := 6) (by decide +kernel) (by decide) ?_
        exact hG
      · exact hG
    · exact hG

set_option maxHeartbeats 1000000 in
theorem wpX12_gainsays {Γ : Cfg} {l : Launch} {d b : Nat} {g : GG} {K : Ou → HP → Prop} {x1 : Int} {x2 : Int} (hF : (okP x1 3) ∧ ((¬ wr (ofP g x1 3) = 2 → K (.inl (vI 0)) (stt g)) ∧ (¬ (¬ wr (ofP g x1 3) = 2) → (okP x2 3) ∧ ((¬ wr (ofP g x2 3) = 2 → K (.inl (vI 0)) (stt g)) ∧ (¬ (¬ wr (ofP g x2 3) = 2) → (0 ≤ wr x1 ∧ wr x1 < 6) ∧ ((wr (g 185 (wr x1)) = 0 → K (.inl (vI 0)) (stt g)) ∧ (¬ (wr (g 185 (wr x1)) = 0) → (0 ≤ wr x1 ∧ wr x1 < 6) ∧ ((0 ≤ wr x2 ∧ wr x2 < 6) ∧ ((¬ wr (g 185 (wr x1)) = wr (g 185 (wr x2)) → K (.inl (vI 0)) (stt g)) ∧ (¬ (¬ wr (g 185 (wr x1)) = wr (g 185 (wr x2))) → (0 ≤ wr x1 ∧ wr x1 < 6) ∧ ((0 ≤ wr x2 ∧ wr x2 < 6) ∧ ((wr (iAnd (g 186 (wr x1)) (g 186 (wr x2))) = 0 → K (.inl (vI 0)) (stt g)) ∧ (¬ (wr (iAnd (g 186 (wr x1)) (g 186 (wr x2))) = 0) → (0 ≤ wr x1 ∧ wr x1 < 6) ∧ ((0 ≤ wr x2 ∧ wr x2 < 6) ∧ ((wr (g 187 (wr x1)) = wr (g 187 (wr x2)) → K (.inl (vI 0)) (stt g)) ∧ (¬ (wr (g 187 (wr x1)) = wr (g 187 (wr x2))) → K (.inl (vI 1)) (stt g))))))))))))))))) : Ct Γ l (d + 2) b yX12_gainsays mX12_gainsays [vR 171, vI x1, vI x2] (stt g) K := by
  refine Ct.enter (L := [vR 171, vI x1, vI x2, vU]) rfl rfl rfl (by decide +kernel) (by simp [oneSlot]) (Nat.le_of_ble_eq_true rfl) rfl ?_
  refine aw_aload_n (k' := 0) (by decide +kernel) rfl ?_
  refine aw_iload_n (k' := 1) (by decide +kernel) rfl ?_
  refine aw_iconst (n := 3) (by decide +kernel) ?_
  refine aw_callV (y := yX12_of) (M2 := mX12_of) (as := [vI x1, vI 3]) (S := []) (t := 171) (d2 := (d + 1)) (b2 := 0) (b3 := b) cwX12_of mlX12_84 imX12_of seX12_of (by decide +kernel) rfl (ci := 10) rfl (OB.at (ci := 10) (show shp 171 = (20, 0) by decide +kernel) (by decide)) (Nat.le_refl _) (Nat.le_of_eq (Nat.zero_add _)) rfl rfl (by simp [oneSlot]) (Nat.le_of_ble_eq_true rfl) (c_of hF.1 ?_)
  show AW Γ l mX12_gainsays (d + 2) b 6 [vR 171, vI x1, vI x2, vU] [vI (ofP g x1 3)] (stt g) K
  replace hF := hF.2
  refine aw_iconst (n := 2) (by decide +kernel) ?_
  refine ax_icmp_ne (off := 17) (tgt := 24) (x' := wr (ofP g x1 3)) (y' := 2) (by decide +kernel) (by decide) rfl (by decide +kernel) (fun hc => ?_) (fun hc => ?_)
  · have hF := hF.1 hc
    refine aw_iconst (n := 0) (by decide +kernel) ?_
    refine aw_istore_n (k' := 3) (by decide +kernel) (by decide) ?_
    show AW Γ l mX12_gainsays (d + 2) b 26 [vR 171, vI x1, vI x2, vI 0] [] (stt g) K
    refine aw_iload_n (k' := 3) (by decide +kernel) rfl ?_
    refine ax_if_eq (off := 62) (tgt := 89) (x' := 0) (by decide +kernel) (by decide) (by decide +kernel) (fun hc => ?_) (fun hc => absurd (by decide) hc)
    refine aw_iconst (n := 0) (by decide +kernel) ?_
    exact aw_zret (by decide +kernel) rfl rfl hF
  · have hF := hF.2 hc
    refine aw_aload_n (k' := 0) (by decide +kernel) rfl ?_
    refine aw_iload_n (k' := 2) (by decide +kernel) rfl ?_
    refine aw_iconst (n := 3) (by decide +kernel) ?_
    refine aw_callV (y := yX12_of) (M2 := mX12_of) (as := [vI x2, vI 3]) (S := []) (t := 171) (d2 := (d + 1)) (b2 := 0) (b3 := b) cwX12_of mlX12_84 imX12_of seX12_of (by decide +kernel) rfl (ci := 10) rfl (OB.at (ci := 10) (show shp 171 = (20, 0) by decide +kernel) (by decide)) (Nat.le_refl _) (Nat.le_of_eq (Nat.zero_add _)) rfl rfl (by simp [oneSlot]) (Nat.le_of_ble_eq_true rfl) (c_of hF.1 ?_)
    show AW Γ l mX12_gainsays (d + 2) b 16 [vR 171, vI x1, vI x2, vU] [vI (ofP g x2 3)] (stt g) K
    replace hF := hF.2
    refine aw_iconst (n := 2) (by decide +kernel) ?_
    refine ax_icmp_ne (off := 7) (tgt := 24) (x' := wr (ofP g x2 3)) (y' := 2) (by decide +kernel) (by decide) rfl (by decide +kernel) (fun hc => ?_) (fun hc => ?_)
    · have hF := hF.1 hc
      refine aw_iconst (n := 0) (by decide +kernel) ?_
      refine aw_istore_n (k' := 3) (by decide +kernel) (by decide) ?_
      show AW Γ l mX12_gainsays (d + 2) b 26 [vR 171, vI x1, vI x2, vI 0] [] (stt g) K
      refine aw_iload_n (k' := 3) (by decide +kernel) rfl ?_
      refine ax_if_eq (off := 62) (tgt := 89) (x' := 0) (by decide +kernel) (by decide) (by decide +kernel) (fun hc => ?_) (fun hc => absurd (by decide) hc)
      refine aw_iconst (n := 0) (by decide +kernel) ?_
      exact aw_zret (by decide +kernel) rfl rfl hF
    · have hF := hF.2 hc
      refine aw_iconst (n := 1) (by decide +kernel) ?_
      refine aw_goto (off := 4) (tgt := 25) (by decide +kernel) (by decide) ?_
      refine aw_istore_n (k' := 3) (by decide +kernel) (by decide) ?_
      show AW Γ l mX12_gainsays (d + 2) b 26 [vR 171, vI x1, vI x2, vI 1] [] (stt g) K
      refine aw_iload_n (k' := 3) (by decide +kernel) rfl ?_
      refine ax_if_eq (off := 62) (tgt := 89) (x' := 1) (by decide +kernel) (by decide) (by decide +kernel) (fun hc => absurd hc (by decide)) (fun hc => ?_)
      refine aw_aload_n (k' := 0) (by decide +kernel) rfl ?_
      refine gfX12_57 rfl (by decide +kernel) (OB.at (ci := 10) (show shp 171 = (20, 0) by decide +kernel) (by decide)) ?_
      refine AW.topR (show RC 171 29 = 185 by decide +kernel) ?_
      refine aw_iload_n (k' := 1) (by decide +kernel) rfl ?_
      refine ax_iald (i := wr x1) (by decide +kernel) (isA_lit (show shp 185 = (0, 6) by decide +kernel) (by decide)) rfl hF.1 ?_
      replace hF := hF.2
      refine ax_if_eq (off := 53) (tgt := 89) (x' := wr (g 185 (wr x1))) (by decide +kernel) (by decide) rfl (fun hc => ?_) (fun hc => ?_)
      · have hF := hF.1 hc
        refine aw_iconst (n := 0) (by decide +kernel) ?_
        exact aw_zret (by decide +kernel) rfl rfl hF
      · have hF := hF.2 hc
        refine aw_aload_n (k' := 0) (by decide +kernel) rfl ?_
        refine gfX12_57 rfl (by decide +kernel) (OB.at (ci := 10) (show shp 171 = (20, 0) by decide +kernel) (by decide)) ?_
        refine AW.topR (show RC 171 29 = 185 by decide +kernel) ?_
        refine aw_iload_n (k' := 1) (by decide +kernel) rfl ?_
        refine ax_iald (i := wr x1) (by decide +kernel) (isA_lit (show shp 185 = (0, 6) by decide +kernel) (by decide)) rfl hF.1 ?_
        replace hF := hF.2
        refine aw_aload_n (k' := 0) (by decide +kernel) rfl ?_
        refine gfX12_57 rfl (by decide +kernel) (OB.at (ci := 10) (show shp 171 = (20, 0) by decide +kernel) (by decide)) ?_
        refine AW.topR (show RC 171 29 = 185 by decide +kernel) ?_
        refine aw_iload_n (k' := 2) (by decide +kernel) rfl ?_
        refine ax_iald (i := wr x2) (by decide +kernel) (isA_lit (show shp 185 = (0, 6) by decide +kernel) (by decide)) rfl hF.1 ?_
        replace hF := hF.2
        refine ax_icmp_ne (off := 38) (tgt := 89) (x' := wr (g 185 (wr x1))) (y' := wr (g 185 (wr x2))) (by decide +kernel) (by decide) rfl rfl (fun hc => ?_) (fun hc => ?_)
        · have hF := hF.1 hc
          refine aw_iconst (n := 0) (by decide +kernel) ?_
          exact aw_zret (by decide +kernel) rfl rfl hF
        · have hF := hF.2 hc
          refine aw_aload_n (k' := 0) (by decide +kernel) rfl ?_
          refine gfX12_60 rfl (by decide +kernel) (OB.at (ci := 10) (show shp 171 = (20, 0) by decide +kernel) (by decide)) ?_
          refine AW.topR (show RC 171 30 = 186 by decide +kernel) ?_
          refine aw_iload_n (k' := 1) (by decide +kernel) rfl ?_
          refine ax_iald (i := wr x1) (by decide +kernel) (isA_lit (show shp 186 = (0, 6) by decide +kernel) (by decide)) rfl hF.1 ?_
          replace hF := hF.2
          refine aw_aload_n (k' := 0) (by decide +kernel) rfl ?_
          refine gfX12_60 rfl (by decide +kernel) (OB.at (ci := 10) (show shp 171 = (20, 0) by decide +kernel) (by decide)) ?_
          refine AW.topR (show RC 171 30 = 186 by decide +kernel) ?_
          refine aw_iload_n (k' := 2) (by decide +kernel) rfl ?_
          refine ax_iald (i := wr x2) (by decide +kernel) (isA_lit (show shp 186 = (0, 6) by decide +kernel) (by decide)) rfl hF.1 ?_
          replace hF := hF.2
          refine aw_iand (by decide +kernel) ?_
          refine ax_if_eq (off := 22) (tgt := 89) (x' := wr (iAnd (g 186 (wr x1)) (g 186 (wr x2)))) (by decide +kernel) (by decide) rfl (fun hc => ?_) (fun hc => ?_)
          · have hF := hF.1 hc
            refine aw_iconst (n := 0) (by decide +kernel) ?_
            exact aw_zret (by decide +kernel) rfl rfl hF
          · have hF := hF.2 hc
            refine aw_aload_n (k' := 0) (by decide +kernel) rfl ?_
            refine gfX12_63 rfl (by decide +kernel) (OB.at (ci := 10) (show shp 171 = (20, 0) by decide +kernel) (by decide)) ?_
            refine AW.topR (show RC 171 31 = 187 by decide +kernel) ?_
            refine aw_iload_n (k' := 1) (by decide +kernel) rfl ?_
            refine ax_iald (i := wr x1) (by decide +kernel) (isA_lit (show shp 187 = (0, 6) by decide +kernel) (by decide)) rfl hF.1 ?_
            replace hF := hF.2
            refine aw_aload_n (k' := 0) (by decide +kernel) rfl ?_
            refine gfX12_63 rfl (by decide +kernel) (OB.at (ci := 10) (show shp 171 = (20, 0) by decide +kernel) (by decide)) ?_
            refine AW.topR (show RC 171 31 = 187 by decide +kernel) ?_
            refine aw_iload_n (k' := 2) (by decide +kernel) rfl ?_
            refine ax_iald (i := wr x2) (by decide +kernel) (isA_lit (show shp 187 = (0, 6) by decide +kernel) (by decide)) rfl hF.1 ?_
            replace hF := hF.2
            refine ax_icmp_eq (off := 7) (tgt := 89) (x' := wr (g 187 (wr x1))) (y' := wr (g 187 (wr x2))) (by decide +kernel) (by decide) rfl rfl (fun hc => ?_) (fun hc => ?_)
            · have hF := hF.1 hc
              refine aw_iconst (n := 0) (by decide +kernel) ?_
              exact aw_zret (by decide +kernel) rfl rfl hF
            · have hF := hF.2 hc
              refine aw_iconst (n := 1) (by decide +kernel) ?_
              refine aw_goto (off := 4) (tgt := 90) (by decide +kernel) (by decide) ?_
              exact aw_zret (by decide +kernel) rfl rfl hF

set_option maxHeartbeats 1000000 in
theorem wpX12_gainsay {Γ : Cfg} {l : Launch} {d b : Nat} {g : GG} {K : Ou → HP → Prop} {x1 : Int} {x2 : Int} (hF : (¬ (0 ≤ wr x1 ∧ wr x1 ≤ wr ((upd2 g 171 0 0) 172 0 - 1)) → K (.inl (vI 0)) (stt (upd2 (upd2 g 171 0 0) 171 0 1))) ∧ (¬ (¬ (0 ≤ wr x1 ∧ wr x1 ≤ wr ((upd2 g 171 0 0) 172 0 - 1))) → (¬ (0 ≤ wr x2 ∧ wr x2 ≤ wr ((upd2 g 171 0 0) 172 0 - 1)) → K (.inl (vI 0)) (stt (upd2 (upd2 g 171 0 0) 171 0 1))) ∧ (¬ (¬ (0 ≤ wr x2 ∧ wr x2 ≤ wr ((upd2 g 171 0 0) 172 0 - 1))) → (¬ wr x1 = wr x2 → Ct Γ l (d + 1) 0 yX12_laysHeld mX12_laysHeld [vR 171] (stt (upd2 g 171 0 0)) (bV (fun g1 => Ct Γ l (d + 1) 0 yX12_gainsays mX12_gainsays [vR 171, vI x1, vI x2] (stt g1) (bI (fun v1 g2 => (wr v1 = 0 ∨ wr v1 = 1) ∧ K (.inl (vI v1)) (stt g2)) K)) K)) ∧ (¬ (¬ wr x1 = wr x2) → K (.inl (vI 0)) (stt (upd2 (upd2 g 171 0 0) 171 0 2)))))) : Ct Γ l (d + 2) b yX12_gainsay mX12_gainsay [vR 171, vI x1, vI x2] (stt g) K := by
  refine Ct.enter (L := [vR 171, vI x1, vI x2]) rfl rfl rfl (by decide +kernel) (by simp [oneSlot]) (Nat.le_of_ble_eq_true rfl) rfl ?_
  refine aw_aload_n (k' := 0) (by decide +kernel) rfl ?_
  refine aw_iconst (n := 0) (by decide +kernel) ?_
  refine pfX12_3 rfl (by decide +kernel) (OB.at (ci := 10) (show shp 171 = (20, 0) by decide +kernel) (by decide)) ?_
  show AW Γ l mX12_gainsay (d + 2) b 5 [vR 171, vI x1, vI x2] [] (stt (upd2 g 171 0 0)) K
  refine aw_aload_n (k' := 0) (by decide +kernel) rfl ?_
  refine aw_aload_n (k' := 0) (by decide +kernel) rfl ?_
  refine aw_iload_n (k' := 1) (by decide +kernel) rfl ?_
  refine aw_callV (y := yX12_noPerson) (M2 := mX12_noPerson) (as := [vI x1]) (S := [vR 171]) (t := 171) (d2 := (d + 1)) (b2 := 0) (b3 := b) cwX12_noPerson mlX12_386 imX12_noPerson seX12_noPerson (by decide +kernel) rfl (ci := 10) rfl (OB.at (ci := 10) (show shp 171 = (20, 0) by decide +kernel) (by decide)) (Nat.le_refl _) (Nat.le_of_eq (Nat.zero_add _)) rfl rfl (by simp [oneSlot]) (Nat.le_of_ble_eq_true rfl) (c_noPerson (fun hc => ?_) (fun hc => ?_))
  · have hF := hF.1 hc
    show AW Γ l mX12_gainsay (d + 2) b 11 [vR 171, vI x1, vI x2] [vI 1, vR 171] (stt (upd2 g 171 0 0)) K
    refine ax_if_ne (off := 11) (tgt := 22) (x' := 1) (by decide +kernel) (by decide) (by decide +kernel) (fun hc => ?_) (fun hc => absurd (by decide) hc)
    refine aw_iconst (n := 1) (by decide +kernel) ?_
    refine aw_goto (off := 4) (tgt := 27) (by decide +kernel) (by decide) ?_
    refine aw_iconst (n := 1) (by decide +kernel) ?_
    refine aw_callV (y := yX12_throwsIf) (M2 := mX12_throwsIf) (as := [vI 1, vI 1]) (S := []) (t := 171) (d2 := (d + 1)) (b2 := 0) (b3 := b) cwX12_throwsIf mlX12_279 imX12_throwsIf seX12_throwsIf (by decide +kernel) rfl (ci := 10) rfl (OB.at (ci := 10) (show shp 171 = (20, 0) by decide +kernel) (by decide)) (Nat.le_refl _) (Nat.le_of_eq (Nat.zero_add _)) rfl rfl (by simp [oneSlot]) (Nat.le_of_ble_eq_true rfl) (c_throwsIf1 ?_)
    show AW Γ l mX12_gainsay (d + 2) b 31 [vR 171, vI x1, vI x2] [vI 1] (stt (upd2 (upd2 g 171 0 0) 171 0 1)) K
    refine ax_if_ne (off := 21) (tgt := 52) (x' := 1) (by decide +kernel) (by decide) (by decide +kernel) (fun hc => ?_) (fun hc => absurd (by decide) hc)
    refine aw_iconst (n := 0) (by decide +kernel) ?_
    exact aw_zret (by decide +kernel) rfl rfl hF
  · have hF := hF.2 hc
    show AW Γ l mX12_gainsay (d + 2) b 11 [vR 171, vI x1, vI x2] [vI 0, vR 171] (stt (upd2 g 171 0 0)) K
    refine ax_if_ne (off := 11) (tgt := 22) (x' := 0) (by decide +kernel) (by decide) (by decide +kernel) (fun hc => absurd hc (by decide)) (fun hc => ?_)
    refine aw_aload_n (k' := 0) (by decide +kernel) rfl ?_
    refine aw_iload_n (k' := 2) (by decide +kernel) rfl ?_
    refine aw_callV (y := yX12_noPerson) (M2 := mX12_noPerson) (as := [vI x2]) (S := [vR 171]) (t := 171) (d2 := (d + 1)) (b2 := 0) (b3 := b) cwX12_noPerson mlX12_386 imX12_noPerson seX12_noPerson (by decide +kernel) rfl (ci := 10) rfl (OB.at (ci := 10) (show shp 171 = (20, 0) by decide +kernel) (by decide)) (Nat.le_refl _) (Nat.le_of_eq (Nat.zero_add _)) rfl rfl (by simp [oneSlot]) (Nat.le_of_ble_eq_true rfl) (c_noPerson (fun hc => ?_) (fun hc => ?_))
    · have hF := hF.1 hc
      show AW Γ l mX12_gainsay (d + 2) b 19 [vR 171, vI x1, vI x2] [vI 1, vR 171] (stt (upd2 g 171 0 0)) K
      refine ax_if_eq (off := 7) (tgt := 26) (x' := 1) (by decide +kernel) (by decide) (by decide +kernel) (fun hc => absurd hc (by decide)) (fun hc => ?_)
      refine aw_iconst (n := 1) (by decide +kernel) ?_
      refine aw_goto (off := 4) (tgt := 27) (by decide +kernel) (by decide) ?_
      refine aw_iconst (n := 1) (by decide +kernel) ?_
      refine aw_callV (y := yX12_throwsIf) (M2 := mX12_throwsIf) (as := [vI 1, vI 1]) (S := []) (t := 171) (d2 := (d + 1)) (b2 := 0) (b3 := b) cwX12_throwsIf mlX12_279 imX12_throwsIf seX12_throwsIf (by decide +kernel) rfl (ci := 10) rfl (OB.at (ci := 10) (show shp 171 = (20, 0) by decide +kernel) (by decide)) (Nat.le_refl _) (Nat.le_of_eq (Nat.zero_add _)) rfl rfl (by simp [oneSlot]) (Nat.le_of_ble_eq_true rfl) (c_throwsIf1 ?_)
      show AW Γ l mX12_gainsay (d + 2) b 31 [vR 171, vI x1, vI x2] [vI 1] (stt (upd2 (upd2 g 171 0 0) 171 0 1)) K
      refine ax_if_ne (off := 21) (tgt := 52) (x' := 1) (by decide +kernel) (by decide) (by decide +kernel) (fun hc => ?_) (fun hc => absurd (by decide) hc)
      refine aw_iconst (n := 0) (by decide +kernel) ?_
      exact aw_zret (by decide +kernel) rfl rfl hF
    · have hF := hF.2 hc
      show AW Γ l mX12_gainsay (d + 2) b 19 [vR 171, vI x1, vI x2] [vI 0, vR 171] (stt (upd2 g 171 0 0)) K
      refine ax_if_eq (off := 7) (tgt := 26) (x' := 0) (by decide +kernel) (by decide) (by decide +kernel) (fun hc => ?_) (fun hc => absurd (by decide) hc)
      refine aw_iconst (n := 0) (by decide +kernel) ?_
      refine aw_iconst (n := 1) (by decide +kernel) ?_
      refine aw_callV (y := yX12_throwsIf) (M2 := mX12_throwsIf) (as := [vI 0, vI 1]) (S := []) (t := 171) (d2 := (d + 1)) (b2 := 0) (b3 := b) cwX12_throwsIf mlX12_279 imX12_throwsIf seX12_throwsIf (by decide +kernel) rfl (ci := 10) rfl (OB.at (ci := 10) (show shp 171 = (20, 0) by decide +kernel) (by decide)) (Nat.le_refl _) (Nat.le_of_eq (Nat.zero_add _)) rfl rfl (by simp [oneSlot]) (Nat.le_of_ble_eq_true rfl) (c_throwsIf0 ?_)
      show AW Γ l mX12_gainsay (d + 2) b 31 [vR 171, vI x1, vI x2] [vI 0] (stt (upd2 g 171 0 0)) K
      refine ax_if_ne (off := 21) (tgt := 52) (x' := 0) (by decide +kernel) (by decide) (by decide +kernel) (fun hc => absurd hc (by decide)) (fun hc => ?_)
      refine aw_aload_n (k' := 0) (by decide +kernel) rfl ?_
      refine aw_iload_n (k' := 1) (by decide +kernel) rfl ?_
      refine aw_iload_n (k' := 2) (by decide +kernel) rfl ?_
      refine ax_icmp_ne (off := 7) (tgt := 44) (x' := wr x1) (y' := wr x2) (by decide +kernel) (by decide) rfl rfl (fun hc => ?_) (fun hc => ?_)
      · have hF := hF.1 hc
        refine aw_iconst (n := 0) (by decide +kernel) ?_
        refine aw_iconst (n := 2) (by decide +kernel) ?_
        refine aw_callV (y := yX12_throwsIf) (M2 := mX12_throwsIf) (as := [vI 0, vI 2]) (S := []) (t := 171) (d2 := (d + 1)) (b2 := 0) (b3 := b) cwX12_throwsIf mlX12_279 imX12_throwsIf seX12_throwsIf (by decide +kernel) rfl (ci := 10) rfl (OB.at (ci := 10) (show shp 171 = (20, 0) by decide +kernel) (by decide)) (Nat.le_refl _) (Nat.le_of_eq (Nat.zero_add _)) rfl rfl (by simp [oneSlot]) (Nat.le_of_ble_eq_true rfl) (c_throwsIf0 ?_)
        show AW Γ l mX12_gainsay (d + 2) b 49 [vR 171, vI x1, vI x2] [vI 0] (stt (upd2 g 171 0 0)) K
        refine ax_if_eq (off := 5) (tgt := 54) (x' := 0) (by decide +kernel) (by decide) (by decide +kernel) (fun hc => ?_) (fun hc => absurd (by decide) hc)
        refine aw_aload_n (k' := 0) (by decide +kernel) rfl ?_
        refine aw_callV (y := yX12_laysHeld) (M2 := mX12_laysHeld) (as := []) (S := []) (t := 171) (d2 := (d + 1)) (b2 := 0) (b3 := b) cwX12_laysHeld mlX12_438 imX12_laysHeld seX12_laysHeld (by decide +kernel) rfl (ci := 10) rfl (OB.at (ci := 10) (show shp 171 = (20, 0) by decide +kernel) (by decide)) (Nat.le_refl _) (Nat.le_of_eq (Nat.zero_add _)) rfl rfl (by simp [oneSlot]) (Nat.le_of_ble_eq_true rfl) (Ct.mono hF ?_)
        rintro o h' (⟨g1, rfl, rfl, hG⟩ | ⟨E, g, rfl, rfl, hG⟩)
        · show AW Γ l mX12_gainsay (d + 2) b 58 [vR 171, vI x1, vI x2] [] (stt g1) K
          refine aw_aload_n (k' := 0) (by decide +kernel) rfl ?_
          refine aw_iload_n (k' := 1) (by decide +kernel) rfl ?_
          refine aw_iload_n (k' := 2) (by decide +kernel) rfl ?_
          refine aw_callV (y := yX12_gainsays) (M2 := mX12_gainsays) (as := [vI x1, vI x2]) (S := []) (t := 171) (d2 := (d + 1)) (b2 := 0) (b3 := b) cwX12_gainsays mlX12_441 imX12_gainsays seX12_gainsays (by decide +kernel) rfl (ci := 10) rfl (OB.at (ci := 10) (show shp 171 = (20, 0) by decide +kernel) (by decide)) (Nat.le_refl _) (Nat.le_of_eq (Nat.zero_add _)) rfl rfl (by simp [oneSlot]) (Nat.le_of_ble_eq_true rfl) (Ct.mono hG ?_)
          rintro o h' (⟨v1, g2, rfl, rfl, hG⟩ | ⟨E, g, rfl, rfl, hG⟩)
          · show AW Γ l mX12_gainsay (d + 2) b 64 [vR 171, vI x1, vI x2] [vI v1] (stt g2) K
            exact aw_zret (by decide +kernel) rfl (nar_z hG.1) hG.2
          · exact hG
        · exact hG
      · have hF := hF.2 hc
        refine aw_iconst (n := 1) (by decide +kernel) ?_
        refine aw_goto (off := 4) (tgt := 45) (by decide +kernel) (by decide) ?_
        refine aw_iconst (n := 2) (by decide +kernel) ?_
        refine aw_callV (y := yX12_throwsIf) (M2 := mX12_throwsIf) (as := [vI 1, vI 2]) (S := []) (t := 171) (d2 := (d + 1)) (b2 := 0) (b3 := b) cwX12_throwsIf mlX12_279 imX12_throwsIf seX12_throwsIf (by decide +kernel) rfl (ci := 10) rfl (OB.at (ci := 10) (show shp 171 = (20, 0) by decide +kernel) (by decide)) (Nat.le_refl _) (Nat.le_of_eq (Nat.zero_add _)) rfl rfl (by simp [oneSlot]) (Nat.le_of_ble_eq_true rfl) (c_throwsIf1 ?_)
        show AW Γ l mX12_gainsay (d + 2) b 49 [vR 171, vI x1, vI x2] [vI 1] (stt (upd2 (upd2 g 171 0 0) 171 0 2)) K
        refine ax_if_eq (off := 5) (tgt := 54) (x' := 1) (by decide +kernel) (by decide) (by decide +kernel) (fun hc => absurd hc (by decide)) (fun hc => ?_)
        refine aw_iconst (n := 0) (by decide +kernel) ?_
        exact aw_zret (by decide +kernel) rfl rfl hF

set_option maxHeartbeats 1000000 in
theorem wpX12_isPeace {Γ : Cfg} {l : Launch} {d b : Nat} {g : GG} {K : Ou → HP → Prop} {x1 : Int} (hF : AW Γ l mX12_isPeace (d + 1) b 4 [vR 171, vI x1, vI 1, vI 0, vU] [] (stt g) K) : Ct Γ l (d + 1) b yX12_isPeace mX12_isPeace [vR 171, vI x1] (stt g) K := by
  refine Ct.enter (L := [vR 171, vI x1, vU, vU, vU]) rfl rfl rfl (by decide +kernel) (by simp [oneSlot]) (Nat.le_of_ble_eq_true rfl) rfl ?_
  refine aw_iconst (n := 1) (by decide +kernel) ?_
  refine aw_istore_n (k' := 2) (by decide +kernel) (by decide) ?_
  show AW Γ l mX12_isPeace (d + 1) b 2 [vR 171, vI x1, vI 1, vU, vU] [] (stt g) K
  refine aw_iconst (n := 0) (by decide +kernel) ?_
  refine aw_istore_n (k' := 3) (by decide +kernel) (by decide) ?_
  show AW Γ l mX12_isPeace (d + 1) b 4 [vR 171, vI x1, vI 1, vI 0, vU] [] (stt g) K
  exact hF
set_option maxHeartbeats 1000000 in
theorem wpX12_isPeace_4 {Γ : Cfg} {l : Launch} {d b : Nat} {g : GG} {K : Ou → HP → Prop} {x1 : Int} {y2 : Int} {y3 : Int} (hF : (wr (g 172 0) ≤ wr y3 → (wr y2 = 0 ∨ wr y2 = 1) ∧ K (.inl (vI y2)) (stt g)) ∧ (¬ (wr (g 172 0) ≤ wr y3) → AW Γ l mX12_isPeace (d + 1) b 15 [vR 171, vI x1, vI y2, vI y3, vI 0] [] (stt g) K)) : AW Γ l mX12_isPeace (d + 1) b 4 [vR 171, vI x1, vI y2, vI y3, vU] [] (stt g) K := by
  refine aw_iload_n (k' := 3) (by decide +kernel) rfl ?_
  refine aw_aload_n (k' := 0) (by decide +kernel) rfl ?_
  refine aw_callV (y := yX12_people) (M2 := mX12_people) (as := []) (S := [vI y3]) (t := 171) (d2 := d) (b2 := 0) (b3 := b) cwX12_people mlX12_87 imX12_people seX12_people (by decide +kernel) rfl (ci := 10) rfl (OB.at (ci := 10) (show shp 171 = (20, 0) by decide +kernel) (by decide)) (Nat.le_refl _) (Nat.le_of_eq (Nat.zero_add _)) rfl rfl (by simp [oneSlot]) (Nat.le_of_ble_eq_true rfl) (c_people ?_)
  show AW Γ l mX12_isPeace (d + 1) b 9 [vR 171, vI x1, vI y2, vI y3, vU] [vI (g 172 0), vI y3] (stt g) K
  refine ax_icmp_ge (off := 61) (tgt := 70) (x' := wr y3) (y' := wr (g 172 0)) (by decide +kernel) (by decide) rfl rfl (fun hc => ?_) (fun hc => ?_)
  · have hF := hF.1 hc
    refine aw_iload_n (k' := 2) (by decide +kernel) rfl ?_
    exact aw_zret (by decide +kernel) rfl (nar_z hF.1) hF.2
  · have hF := hF.2 hc
    refine aw_iconst (n := 0) (by decide +kernel) ?_
    refine aw_istore (i := 4) (by decide +kernel) (by decide) ?_
    show AW Γ l mX12_isPeace (d + 1) b 15 [vR 171, vI x1, vI y2, vI y3, vI 0] [] (stt g) K
    exact hF
set_option maxHeartbeats 1000000 in
theorem wpX12_isPeace_15 {Γ : Cfg} {l : Launch} {d b : Nat} {g : GG} {K : Ou → HP → Prop} {x1 : Int} {y2 : Int} {y3 : Int} {y4 : Int} (hF : (wr y3 ≤ wr y4 → AW Γ l mX12_isPeace (d + 1) b 4 [vR 171, vI x1, vI y2, vI (y3 + 1), vI y4] [] (stt g) K) ∧ (¬ (wr y3 ≤ wr y4) → (wr y2 = 0 → AW Γ l mX12_isPeace (d + 1) b 15 [vR 171, vI x1, vI 0, vI y3, vI (y4 + 1)] [] (stt g) K) ∧ (¬ (wr y2 = 0) → (wr (iAnd (iShr x1 y3) 1) = 1 → (wr (iAnd (iShr x1 y4) 1) = 1 → Ct Γ l d 0 yX12_gainsays mX12_gainsays [vR 171, vI y3, vI y4] (stt g) (bI (fun v1 g1 => (¬ wr v1 = 0 → AW Γ l mX12_isPeace (d + 1) b 15 [vR 171, vI x1, vI 0, vI y3, vI (y4 + 1)] [] (stt g1) K) ∧ (¬ (¬ wr v1 = 0) → AW Γ l mX12_isPeace (d + 1) b 15 [vR 171, vI x1, vI 1, vI y3, vI (y4 + 1)] [] (stt g1) K)) K)) ∧ (¬ (wr (iAnd (iShr x1 y4) 1) = 1) → AW Γ l mX12_isPeace (d + 1) b 15 [vR 171, vI x1, vI 1, vI y3, vI (y4 + 1)] [] (stt g) K)) ∧ (¬ (wr (iAnd (iShr x1 y3) 1) = 1) → AW Γ l mX12_isPeace (d + 1) b 15 [vR 171, vI x1, vI 1, vI y3, vI (y4 + 1)] [] (stt g) K)))) : AW Γ l mX12_isPeace (d + 1) b 15 [vR 171, vI x1, vI y2, vI y3, vI y4] [] (stt g) K := by
  refine aw_iload (i := 4) (by decide +kernel) rfl ?_
  refine aw_iload_n (k' := 3) (by decide +kernel) rfl ?_
  refine ax_icmp_ge (off := 46) (tgt := 64) (x' := wr y4) (y' := wr y3) (by decide +kernel) (by decide) rfl rfl (fun hc => ?_) (fun hc => ?_)
  · have hF := hF.1 hc
    refine aw_iinc (i := 3) (n := 1) (by decide +kernel) rfl (by decide) ?_
    show AW Γ l mX12_isPeace (d + 1) b 67 [vR 171, vI x1, vI y2, vI (y3 + 1), vI y4] [] (stt g) K
    refine aw_goto (off := -63) (tgt := 4) (by decide +kernel) (by decide) ?_
    exact hF
  · have hF := hF.2 hc
    refine aw_iload_n (k' := 2) (by decide +kernel) rfl ?_
    refine ax_if_eq (off := 34) (tgt := 56) (x' := wr y2) (by decide +kernel) (by decide) rfl (fun hc => ?_) (fun hc => ?_)
    · have hF := hF.1 hc
      refine aw_iconst (n := 0) (by decide +kernel) ?_
      refine aw_istore_n (k' := 2) (by decide +kernel) (by decide) ?_
      show AW Γ l mX12_isPeace (d + 1) b 58 [vR 171, vI x1, vI 0, vI y3, vI y4] [] (stt g) K
      refine aw_iinc (i := 4) (n := 1) (by decide +kernel) rfl (by decide) ?_
      show AW Γ l mX12_isPeace (d + 1) b 61 [vR 171, vI x1, vI 0, vI y3, vI (y4 + 1)] [] (stt g) K
      refine aw_goto (off := -46) (tgt := 15) (by decide +kernel) (by decide) ?_
      exact hF
    · have hF := hF.2 hc
      refine aw_iload_n (k' := 1) (by decide +kernel) rfl ?_
      refine aw_iload_n (k' := 3) (by decide +kernel) rfl ?_
      refine aw_callS (y := yX12_has) (M2 := mX12_has) (as := [vI x1, vI y3]) (S := []) (d2 := d) (b2 := 0) (b3 := b) cwX12_has mlX12_444 stX12_has (by decide +kernel) rfl (Nat.le_refl _) (Nat.le_of_eq (Nat.zero_add _)) rfl rfl (by simp [oneSlot]) (Nat.le_of_ble_eq_true rfl) (c_has12 (fun hc => ?_) (fun hc => ?_))
      · have hF := hF.1 hc
        show AW Γ l mX12_isPeace (d + 1) b 30 [vR 171, vI x1, vI y2, vI y3, vI y4] [vI 1] (stt g) K
        refine ax_if_eq (off := 22) (tgt := 52) (x' := 1) (by decide +kernel) (by decide) (by decide +kernel) (fun hc => absurd hc (by decide)) (fun hc => ?_)
        refine aw_iload_n (k' := 1) (by decide +kernel) rfl ?_
        refine aw_iload (i := 4) (by decide +kernel) rfl ?_
        refine aw_callS (y := yX12_has) (M2 := mX12_has) (as := [vI x1, vI y4]) (S := []) (d2 := d) (b2 := 0) (b3 := b) cwX12_has mlX12_444 stX12_has (by decide +kernel) rfl (Nat.le_refl _) (Nat.le_of_eq (Nat.zero_add _)) rfl rfl (by simp [oneSlot]) (Nat.le_of_ble_eq_true rfl) (c_has12 (fun hc => ?_) (fun hc => ?_))
        · have hF := hF.1 hc
          show AW Γ l mX12_isPeace (d + 1) b 39 [vR 171, vI x1, vI y2, vI y3, vI y4] [vI 1] (stt g) K
          refine ax_if_eq (off := 13) (tgt := 52) (x' := 1) (by decide +kernel) (by decide) (by decide +kernel) (fun hc => absurd hc (by decide)) (fun hc => ?_)
          refine aw_aload_n (k' := 0) (by decide +kernel) rfl ?_
          refine aw_iload_n (k' := 3) (by decide +kernel) rfl ?_
          refine aw_iload (i := 4) (by decide +kernel) rfl ?_
          refine aw_callV (y := yX12_gainsays) (M2 := mX12_gainsays) (as := [vI y3, vI y4]) (S := []) (t := 171) (d2 := d) (b2 := 0) (b3 := b) cwX12_gainsays mlX12_441 imX12_gainsays seX12_gainsays (by decide +kernel) rfl (ci := 10) rfl (OB.at (ci := 10) (show shp 171 = (20, 0) by decide +kernel) (by decide)) (Nat.le_refl _) (Nat.le_of_eq (Nat.zero_add _)) rfl rfl (by simp [oneSlot]) (Nat.le_of_ble_eq_true rfl) (Ct.mono hF ?_)
          rintro o h' (⟨v1, g1, rfl, rfl, hG⟩ | ⟨E, g, rfl, rfl, hG⟩)
          · show AW Γ l mX12_isPeace (d + 1) b 49 [vR 171, vI x1, vI y2, vI y3, vI y4] [vI v1] (stt g1) K
            refine ax_if_ne (off := 7) (tgt := 56) (x' := wr v1) (by decide +kernel) (by decide) rfl (fun hc => ?_) (fun hc => ?_)
            · have hG := hG.1 hc
              refine aw_iconst (n := 0) (by decide +kernel) ?_
              refine aw_istore_n (k' := 2) (by decide +kernel) (by decide) ?_
              show AW Γ l mX12_isPeace (d + 1) b 58 [vR 171, vI x1, vI 0, vI y3, vI y4] [] (stt g1) K
              refine aw_iinc (i := 4) (n := 1) (by decide +kernel) rfl (by decide) ?_
              show AW Γ l mX12_isPeace (d + 1) b 61 [vR 171, vI x1, vI 0, vI y3, vI (y4 + 1)] [] (stt g1) K
              refine aw_goto (off := -46) (tgt := 15) (by decide +kernel) (by decide) ?_
              exact hG
            · have hG := hG.2 hc
              refine aw_iconst (n := 1) (by decide +kernel) ?_
              refine aw_goto (off := 4) (tgt := 57) (by decide +kernel) (by decide) ?_
              refine aw_istore_n (k' := 2) (by decide +kernel) (by decide) ?_
              show AW Γ l mX12_isPeace (d + 1) b 58 [vR 171, vI x1, vI 1, vI y3, vI y4] [] (stt g1) K
              refine aw_iinc (i := 4) (n := 1) (by decide +kernel) rfl (by decide) ?_
              show AW Γ l mX12_isPeace (d + 1) b 61 [vR 171, vI x1, vI 1, vI y3, vI (y4 + 1)] [] (stt g1) K
              refine aw_goto (off := -46) (tgt := 15) (by decide +kernel) (by decide) ?_
              exact hG
          · exact hG
        · have hF := hF.2 hc
          show AW Γ l mX12_isPeace (d + 1) b 39 [vR 171, vI x1, vI y2, vI y3, vI y4] [vI 0] (stt g) K
          refine ax_if_eq (off := 13) (tgt := 52) (x' := 0) (by decide +kernel) (by decide) (by decide +kernel) (fun hc => ?_) (fun hc => absurd (by decide) hc)
          refine aw_iconst (n := 1) (by decide +kernel) ?_
          refine aw_goto (off := 4) (tgt := 57) (by decide +kernel) (by decide) ?_
          refine aw_istore_n (k' := 2) (by decide +kernel) (by decide) ?_
          show AW Γ l mX12_isPeace (d + 1) b 58 [vR 171, vI x1, vI 1, vI y3, vI y4] [] (stt g) K
          refine aw_iinc (i := 4) (n := 1) (by decide +kernel) rfl (by decide) ?_
          show AW Γ l mX12_isPeace (d + 1) b 61 [vR 171, vI x1, vI 1, vI y3, vI (y4 + 1)] [] (stt g) K
          refine aw_goto (off := -46) (tgt := 15) (by decide +kernel) (by decide) ?_
          exact hF
      · have hF := hF.2 hc
        show AW Γ l mX12_isPeace (d + 1) b 30 [vR 171, vI x1, vI y2, vI y3, vI y4] [vI 0] (stt g) K
        refine ax_if_eq (off := 22) (tgt := 52) (x' := 0) (by decide +kernel) (by decide) (by decide +kernel) (fun hc => ?_) (fun hc => absurd (by decide) hc)
        refine aw_iconst (n := 1) (by decide +kernel) ?_
        refine aw_goto (off := 4) (tgt := 57) (by decide +kernel) (by decide) ?_
        refine aw_istore_n (k' := 2) (by decide +kernel) (by decide) ?_
        show AW Γ l mX12_isPeace (d + 1) b 58 [vR 171, vI x1, vI 1, vI y3, vI y4] [] (stt g) K
        refine aw_iinc (i := 4) (n := 1) (by decide +kernel) rfl (by decide) ?_
        show AW Γ l mX12_isPeace (d + 1) b 61 [vR 171, vI x1, vI 1, vI y3, vI (y4 + 1)] [] (stt g) K
        refine aw_goto (off := -46) (tgt := 15) (by decide +kernel) (by decide) ?_
        exact hF

set_option maxHeartbeats 1000000 in
theorem wpX12_peace {Γ : Cfg} {l : Launch} {d b : Nat} {g : GG} {K : Ou → HP → Prop}  (hF : Ct Γ l d 0 yX12_laysHeld mX12_laysHeld [vR 171] (stt (upd2 g 171 0 0)) (bV (fun g1 => Ct Γ l d 0 yX12_allIn mX12_allIn [vR 171, vI 2] (stt g1) (bI (fun v1 g2 => AW Γ l mX12_peace (d + 1) b 19 [vR 171, vI v1, vI 0, vI 1] [] (stt g2) K) K)) K)) : Ct Γ l (d + 1) b yX12_peace mX12_peace [vR 171] (stt g) K := by
  refine Ct.enter (L := [vR 171, vU, vU, vU]) rfl rfl rfl (by decide +kernel) (by simp [oneSlot]) (Nat.le_of_ble_eq_true rfl) rfl ?_
  refine aw_aload_n (k' := 0) (by decide +kernel) rfl ?_
  refine aw_iconst (n := 0) (by decide +kernel) ?_
  refine pfX12_3 rfl (by decide +kernel) (OB.at (ci := 10) (show shp 171 = (20, 0) by decide +kernel) (by decide)) ?_
  show AW Γ l mX12_peace (d + 1) b 5 [vR 171, vU, vU, vU] [] (stt (upd2 g 171 0 0)) K
  refine aw_aload_n (k' := 0) (by decide +kernel) rfl ?_
  refine aw_callV (y := yX12_laysHeld) (M2 := mX12_laysHeld) (as := []) (S := []) (t := 171) (d2 := d) (b2 := 0) (b3 := b) cwX12_laysHeld mlX12_438 imX12_laysHeld seX12_laysHeld (by decide +kernel) rfl (ci := 10) rfl (OB.at (ci := 10) (show shp 171 = (20, 0) by decide +kernel) (by decide)) (Nat.le_refl _) (Nat.le_of_eq (Nat.zero_add _)) rfl rfl (by simp [oneSlot]) (Nat.le_of_ble_eq_true rfl) (Ct.mono hF ?_)
  rintro o h' (⟨g1, rfl, rfl, hG⟩ | ⟨E, g, rfl, rfl, hG⟩)
  · show AW Γ l mX12_peace (d + 1) b 9 [vR 171, vU, vU, vU] [] (stt g1) K
    refine aw_aload_n (k' := 0) (by decide +kernel) rfl ?_
    refine aw_iconst (n := 2) (by decide +kernel) ?_
    refine aw_callV (y := yX12_allIn) (M2 := mX12_allIn) (as := [vI 2]) (S := []) (t := 171) (d2 := d) (b2 := 0) (b3 := b) cwX12_allIn mlX12_355 imX12_allIn seX12_allIn (by decide +kernel) rfl (ci := 10) rfl (OB.at (ci := 10) (show shp 171 = (20, 0) by decide +kernel) (by decide)) (Nat.le_refl _) (Nat.le_of_eq (Nat.zero_add _)) rfl rfl (by simp [oneSlot]) (Nat.le_of_ble_eq_true rfl) (Ct.mono hG ?_)
    rintro o h' (⟨v1, g2, rfl, rfl, hG⟩ | ⟨E, g, rfl, rfl, hG⟩)
    · show AW Γ l mX12_peace (d + 1) b 14 [vR 171, vU, vU, vU] [vI v1] (stt g2) K
      refine aw_istore_n (k' := 1) (by decide +kernel) (by decide) ?_
      show AW Γ l mX12_peace (d + 1) b 15 [vR 171, vI v1, vU, vU] [] (stt g2) K
      refine aw_iconst (n := 0) (by decide +kernel) ?_
      refine aw_istore_n (k' := 2) (by decide +kernel) (by decide) ?_
      show AW Γ l mX12_peace (d + 1) b 17 [vR 171, vI v1, vI 0, vU] [] (stt g2) K
      refine aw_iconst (n := 1) (by decide +kernel) ?_
      refine aw_istore_n (k' := 3) (by decide +kernel) (by decide) ?_
      show AW Γ l mX12_peace (d + 1) b 19 [vR 171, vI v1, vI 0, vI 1] [] (stt g2) K
      exact hG
    · exact hG
  · exact hG
set_option maxHeartbeats 1000000 in
theorem wpX12_peace_19 {Γ : Cfg} {l : Launch} {d b : Nat} {g : GG} {K : Ou → HP → Prop} {y1 : Int} {y2 : Int} {y3 : Int} (hF : (wr y1 < wr y3 → K (.inl (vI y2)) (stt g)) ∧ (¬ (wr y1 < wr y3) → (¬ wr (iAnd y3 (iXor y1 (-1))) = 0 → AW Γ l mX12_peace (d + 1) b 19 [vR 171, vI y1, vI y2, vI (y3 + 1)] [] (stt g) K) ∧ (¬ (¬ wr (iAnd y3 (iXor y1 (-1))) = 0) → (wr (iBC y3) ≤ wr (iBC y2) → AW Γ l mX12_peace (d + 1) b 19 [vR 171, vI y1, vI y2, vI (y3 + 1)] [] (stt g) K) ∧ (¬ (wr (iBC y3) ≤ wr (iBC y2)) → Ct Γ l d 0 yX12_isPeace mX12_isPeace [vR 171, vI y3] (stt g) (bI (fun v1 g1 => (wr v1 = 0 → AW Γ l mX12_peace (d + 1) b 19 [vR 171, vI y1, vI y2, vI (y3 + 1)] [] (stt g1) K) ∧ (¬ (wr v1 = 0) → AW Γ l mX12_peace (d + 1) b 19 [vR 171, vI y1, vI y3, vI (y3 + 1)] [] (stt g1) K)) K))))) : AW Γ l mX12_peace (d + 1) b 19 [vR 171, vI y1, vI y2, vI y3] [] (stt g) K := by
  refine aw_iload_n (k' := 3) (by decide +kernel) rfl ?_
  refine aw_iload_n (k' := 1) (by decide +kernel) rfl ?_
  refine ax_icmp_gt (off := 42) (tgt := 63) (x' := wr y3) (y' := wr y1) (by decide +kernel) (by decide) rfl rfl (fun hc => ?_) (fun hc => ?_)
  · have hF := hF.1 hc
    refine aw_iload_n (k' := 2) (by decide +kernel) rfl ?_
    exact aw_iret (by decide +kernel) rfl hF
  · have hF := hF.2 hc
    refine aw_iload_n (k' := 3) (by decide +kernel) rfl ?_
    refine aw_iload_n (k' := 1) (by decide +kernel) rfl ?_
    refine aw_iconst (n := -1) (by decide +kernel) ?_
    refine aw_ixor (by decide +kernel) ?_
    refine aw_iand (by decide +kernel) ?_
    refine ax_if_ne (off := 26) (tgt := 55) (x' := wr (iAnd y3 (iXor y1 (-1)))) (by decide +kernel) (by decide) rfl (fun hc => ?_) (fun hc => ?_)
    · have hF := hF.1 hc
      refine aw_iload_n (k' := 2) (by decide +kernel) rfl ?_
      refine aw_istore_n (k' := 2) (by decide +kernel) (by decide) ?_
      show AW Γ l mX12_peace (d + 1) b 57 [vR 171, vI y1, vI y2, vI y3] [] (stt g) K
      refine aw_iinc (i := 3) (n := 1) (by decide +kernel) rfl (by decide) ?_
      show AW Γ l mX12_peace (d + 1) b 60 [vR 171, vI y1, vI y2, vI (y3 + 1)] [] (stt g) K
      refine aw_goto (off := -41) (tgt := 19) (by decide +kernel) (by decide) ?_
      exact hF
    · have hF := hF.2 hc
      refine aw_iload_n (k' := 3) (by decide +kernel) rfl ?_
      refine aw_callS (y := yJ6_bitCount_0f7a4) (M2 := mJ6_bitCount_0f7a4) (as := [vI y3]) (S := []) (d2 := d) (b2 := 0) (b3 := b) cwJ6_bitCount_0f7a4 mlX12_315 stJ6_bitCount_0f7a4 (by decide +kernel) rfl (Nat.le_refl _) (Nat.le_of_eq (Nat.zero_add _)) rfl rfl (by simp [oneSlot]) (Nat.le_of_ble_eq_true rfl) (c_bitCount ?_)
      show AW Γ l mX12_peace (d + 1) b 36 [vR 171, vI y1, vI y2, vI y3] [vI (iBC y3)] (stt g) K
      refine aw_iload_n (k' := 2) (by decide +kernel) rfl ?_
      refine aw_callS (y := yJ6_bitCount_0f7a4) (M2 := mJ6_bitCount_0f7a4) (as := [vI y2]) (S := [vI (iBC y3)]) (d2 := d) (b2 := 0) (b3 := b) cwJ6_bitCount_0f7a4 mlX12_315 stJ6_bitCount_0f7a4 (by decide +kernel) rfl (Nat.le_refl _) (Nat.le_of_eq (Nat.zero_add _)) rfl rfl (by simp [oneSlot]) (Nat.le_of_ble_eq_true rfl) (c_bitCount ?_)
      show AW Γ l mX12_peace (d + 1) b 40 [vR 171, vI y1, vI y2, vI y3] [vI (iBC y2), vI (iBC y3)] (stt g) K
      refine ax_icmp_le (off := 15) (tgt := 55) (x' := wr (iBC y3)) (y' := wr (iBC y2)) (by decide +kernel) (by decide) rfl rfl (fun hc => ?_) (fun hc => ?_)
      · have hF := hF.1 hc
        refine aw_iload_n (k' := 2) (by decide +kernel) rfl ?_
        refine aw_istore_n (k' := 2) (by decide +kernel) (by decide) ?_
        show AW Γ l mX12_peace (d + 1) b 57 [vR 171, vI y1, vI y2, vI y3] [] (stt g) K
        refine aw_iinc (i := 3) (n := 1) (by decide +kernel) rfl (by decide) ?_
        show AW Γ l mX12_peace (d + 1) b 60 [vR 171, vI y1, vI y2, vI (y3 + 1)] [] (stt g) K
        refine aw_goto (off := -41) (tgt := 19) (by decide +kernel) (by decide) ?_
        exact hF
      · have hF := hF.2 hc
        refine aw_aload_n (k' := 0) (by decide +kernel) rfl ?_
        refine aw_iload_n (k' := 3) (by decide +kernel) rfl ?_
        refine aw_callV (y := yX12_isPeace) (M2 := mX12_isPeace) (as := [vI y3]) (S := []) (t := 171) (d2 := d) (b2 := 0) (b3 := b) cwX12_isPeace mlX12_447 imX12_isPeace seX12_isPeace (by decide +kernel) rfl (ci := 10) rfl (OB.at (ci := 10) (show shp 171 = (20, 0) by decide +kernel) (by decide)) (Nat.le_refl _) (Nat.le_of_eq (Nat.zero_add _)) rfl rfl (by simp [oneSlot]) (Nat.le_of_ble_eq_true rfl) (Ct.mono hF ?_)
        rintro o h' (⟨v1, g1, rfl, rfl, hG⟩ | ⟨E, g, rfl, rfl, hG⟩)
        · show AW Γ l mX12_peace (d + 1) b 48 [vR 171, vI y1, vI y2, vI y3] [vI v1] (stt g1) K
          refine ax_if_eq (off := 7) (tgt := 55) (x' := wr v1) (by decide +kernel) (by decide) rfl (fun hc => ?_) (fun hc => ?_)
          · have hG := hG.1 hc
            refine aw_iload_n (k' := 2) (by decide +kernel) rfl ?_
            refine aw_istore_n (k' := 2) (by decide +kernel) (by decide) ?_
            show AW Γ l mX12_peace (d + 1) b 57 [vR 171, vI y1, vI y2, vI y3] [] (stt g1) K
            refine aw_iinc (i := 3) (n := 1) (by decide +kernel) rfl (by decide) ?_
            show AW Γ l mX12_peace (d + 1) b 60 [vR 171, vI y1, vI y2, vI (y3 + 1)] [] (stt g1) K
            refine aw_goto (off := -41) (tgt := 19) (by decide +kernel) (by decide) ?_
            exact hG
          · have hG := hG.2 hc
            refine aw_iload_n (k' := 3) (by decide +kernel) rfl ?_
            refine aw_goto (off := 4) (tgt := 56) (by decide +kernel) (by decide) ?_
            refine aw_istore_n (k' := 2) (by decide +kernel) (by decide) ?_
            show AW Γ l mX12_peace (d + 1) b 57 [vR 171, vI y1, vI y3, vI y3] [] (stt g1) K
            refine aw_iinc (i := 3) (n := 1) (by decide +kernel) rfl (by decide) ?_
            show AW Γ l mX12_peace (d + 1) b 60 [vR 171, vI y1, vI y3, vI (y3 + 1)] [] (stt g1) K
            refine aw_goto (off := -41) (tgt := 19) (by decide +kernel) (by decide) ?_
            exact hG
        · exact hG

set_option maxHeartbeats 1000000 in
theorem wpX12_quiet {Γ : Cfg} {l : Launch} {d b : Nat} {g : GG} {K : Ou → HP → Prop}  (hF : Ct Γ l d 0 yX12_laysHeld mX12_laysHeld [vR 171] (stt (upd2 g 171 0 0)) (bV (fun g1 => Ct Γ l d 0 yX12_allIn mX12_allIn [vR 171, vI 2] (stt g1) (bI (fun v1 g2 => AW Γ l mX12_quiet (d + 1) b 19 [vR 171, vI v1, vI v1, vI v1] [] (stt g2) K) K)) K)) : Ct Γ l (d + 1) b yX12_quiet mX12_quiet [vR 171] (stt g) K := by
  refine Ct.enter (L := [vR 171, vU, vU, vU]) rfl rfl rfl (by decide +kernel) (by simp [oneSlot]) (Nat.le_of_ble_eq_true rfl) rfl ?_
  refine aw_aload_n (k' := 0) (by decide +kernel) rfl ?_
  refine aw_iconst (n := 0) (by decide +kernel) ?_
  refine pfX12_3 rfl (by decide +kernel) (OB.at (ci := 10) (show shp 171 = (20, 0) by decide +kernel) (by decide)) ?_
  show AW Γ l mX12_quiet (d + 1) b 5 [vR 171, vU, vU, vU] [] (stt (upd2 g 171 0 0)) K
  refine aw_aload_n (k' := 0) (by decide +kernel) rfl ?_
  refine aw_callV (y := yX12_laysHeld) (M2 := mX12_laysHeld) (as := []) (S := []) (t := 171) (d2 := d) (b2 := 0) (b3 := b) cwX12_laysHeld mlX12_438 imX12_laysHeld seX12_laysHeld (by decide +kernel) rfl (ci := 10) rfl (OB.at (ci := 10) (show shp 171 = (20, 0) by decide +kernel) (by decide)) (Nat.le_refl _) (Nat.le_of_eq (Nat.zero_add _)) rfl rfl (by simp [oneSlot]) (Nat.le_of_ble_eq_true rfl) (Ct.mono hF ?_)
  rintro o h' (⟨g1, rfl, rfl, hG⟩ | ⟨E, g, rfl, rfl, hG⟩)
  · show AW Γ l mX12_quiet (d + 1) b 9 [vR 171, vU, vU, vU] [] (stt g1) K
    refine aw_aload_n (k' := 0) (by decide +kernel) rfl ?_
    refine aw_iconst (n := 2) (by decide +kernel) ?_
    refine aw_callV (y := yX12_allIn) (M2 := mX12_allIn) (as := [vI 2]) (S := []) (t := 171) (d2 := d) (b2 := 0) (b3 := b) cwX12_allIn mlX12_355 imX12_allIn seX12_allIn (by decide +kernel) rfl (ci := 10) rfl (OB.at (ci := 10) (show shp 171 = (20, 0) by decide +kernel) (by decide)) (Nat.le_refl _) (Nat.le_of_eq (Nat.zero_add _)) rfl rfl (by simp [oneSlot]) (Nat.le_of_ble_eq_true rfl) (Ct.mono hG ?_)
    rintro o h' (⟨v1, g2, rfl, rfl, hG⟩ | ⟨E, g, rfl, rfl, hG⟩)
    · show AW Γ l mX12_quiet (d + 1) b 14 [vR 171, vU, vU, vU] [vI v1] (stt g2) K
      refine aw_istore_n (k' := 1) (by decide +kernel) (by decide) ?_
      show AW Γ l mX12_quiet (d + 1) b 15 [vR 171, vI v1, vU, vU] [] (stt g2) K
      refine aw_iload_n (k' := 1) (by decide +kernel) rfl ?_
      refine aw_istore_n (k' := 2) (by decide +kernel) (by decide) ?_
      show AW Γ l mX12_quiet (d + 1) b 17 [vR 171, vI v1, vI v1, vU] [] (stt g2) K
      refine aw_iload_n (k' := 1) (by decide +kernel) rfl ?_
      refine aw_istore_n (k' := 3) (by decide +kernel) (by decide) ?_
      show AW Γ l mX12_quiet (d + 1) b 19 [vR 171, vI v1, vI v1, vI v1] [] (stt g2) K
      exact hG
    · exact hG
  · exact hG
set_option maxHeartbeats 1000000 in
theorem wpX12_quiet_19 {Γ : Cfg} {l : Launch} {d b : Nat} {g : GG} {K : Ou → HP → Prop} {y1 : Int} {y2 : Int} {y3 : Int} (hF : (wr y3 < 0 → K (.inl (vI y2)) (stt g)) ∧ (¬ (wr y3 < 0) → (¬ wr (iAnd y3 (iXor y1 (-1))) = 0 → AW Γ l mX12_quiet (d + 1) b 19 [vR 171, vI y1, vI y2, vI (y3 + (-1))] [] (stt g) K) ∧ (¬ (¬ wr (iAnd y3 (iXor y1 (-1))) = 0) → (wr (iBC y2) < wr (iBC y3) → AW Γ l mX12_quiet (d + 1) b 19 [vR 171, vI y1, vI y2, vI (y3 + (-1))] [] (stt g) K) ∧ (¬ (wr (iBC y2) < wr (iBC y3)) → Ct Γ l d 0 yX12_isPeace mX12_isPeace [vR 171, vI (iAnd y1 (iXor y3 (-1)))] (stt g) (bI (fun v1 g1 => (wr v1 = 0 → AW Γ l mX12_quiet (d + 1) b 19 [vR 171, vI y1, vI y2, vI (y3 + (-1))] [] (stt g1) K) ∧ (¬ (wr v1 = 0) → AW Γ l mX12_quiet (d + 1) b 19 [vR 171, vI y1, vI y3, vI (y3 + (-1))] [] (stt g1) K)) K))))) : AW Γ l mX12_quiet (d + 1) b 19 [vR 171, vI y1, vI y2, vI y3] [] (stt g) K := by
  refine aw_iload_n (k' := 3) (by decide +kernel) rfl ?_
  refine ax_if_lt (off := 46) (tgt := 66) (x' := wr y3) (by decide +kernel) (by decide) rfl (fun hc => ?_) (fun hc => ?_)
  · have hF := hF.1 hc
    refine aw_iload_n (k' := 2) (by decide +kernel) rfl ?_
    exact aw_iret (by decide +kernel) rfl hF
  · have hF := hF.2 hc
    refine aw_iload_n (k' := 3) (by decide +kernel) rfl ?_
    refine aw_iload_n (k' := 1) (by decide +kernel) rfl ?_
    refine aw_iconst (n := -1) (by decide +kernel) ?_
    refine aw_ixor (by decide +kernel) ?_
    refine aw_iand (by decide +kernel) ?_
    refine ax_if_ne (off := 30) (tgt := 58) (x' := wr (iAnd y3 (iXor y1 (-1)))) (by decide +kernel) (by decide) rfl (fun hc => ?_) (fun hc => ?_)
    · have hF := hF.1 hc
      refine aw_iload_n (k' := 2) (by decide +kernel) rfl ?_
      refine aw_istore_n (k' := 2) (by decide +kernel) (by decide) ?_
      show AW Γ l mX12_quiet (d + 1) b 60 [vR 171, vI y1, vI y2, vI y3] [] (stt g) K
      refine aw_iinc (i := 3) (n := -1) (by decide +kernel) rfl (by decide) ?_
      show AW Γ l mX12_quiet (d + 1) b 63 [vR 171, vI y1, vI y2, vI (y3 + (-1))] [] (stt g) K
      refine aw_goto (off := -44) (tgt := 19) (by decide +kernel) (by decide) ?_
      exact hF
    · have hF := hF.2 hc
      refine aw_iload_n (k' := 3) (by decide +kernel) rfl ?_
      refine aw_callS (y := yJ6_bitCount_0f7a4) (M2 := mJ6_bitCount_0f7a4) (as := [vI y3]) (S := []) (d2 := d) (b2 := 0) (b3 := b) cwJ6_bitCount_0f7a4 mlX12_315 stJ6_bitCount_0f7a4 (by decide +kernel) rfl (Nat.le_refl _) (Nat.le_of_eq (Nat.zero_add _)) rfl rfl (by simp [oneSlot]) (Nat.le_of_ble_eq_true rfl) (c_bitCount ?_)
      show AW Γ l mX12_quiet (d + 1) b 35 [vR 171, vI y1, vI y2, vI y3] [vI (iBC y3)] (stt g) K
      refine aw_iload_n (k' := 2) (by decide +kernel) rfl ?_
      refine aw_callS (y := yJ6_bitCount_0f7a4) (M2 := mJ6_bitCount_0f7a4) (as := [vI y2]) (S := [vI (iBC y3)]) (d2 := d) (b2 := 0) (b3 := b) cwJ6_bitCount_0f7a4 mlX12_315 stJ6_bitCount_0f7a4 (by decide +kernel) rfl (Nat.le_refl _) (Nat.le_of_eq (Nat.zero_add _)) rfl rfl (by simp [oneSlot]) (Nat.le_of_ble_eq_true rfl) (c_bitCount ?_)
      show AW Γ l mX12_quiet (d + 1) b 39 [vR 171, vI y1, vI y2, vI y3] [vI (iBC y2), vI (iBC y3)] (stt g) K
      refine ax_icmp_gt (off := 19) (tgt := 58) (x' := wr (iBC y3)) (y' := wr (iBC y2)) (by decide +kernel) (by decide) rfl rfl (fun hc => ?_) (fun hc => ?_)
      · have hF := hF.1 hc
        refine aw_iload_n (k' := 2) (by decide +kernel) rfl ?_
        refine aw_istore_n (k' := 2) (by decide +kernel) (by decide) ?_
        show AW Γ l mX12_quiet (d + 1) b 60 [vR 171, vI y1, vI y2, vI y3] [] (stt g) K
        refine aw_iinc (i := 3) (n := -1) (by decide +kernel) rfl (by decide) ?_
        show AW Γ l mX12_quiet (d + 1) b 63 [vR 171, vI y1, vI y2, vI (y3 + (-1))] [] (stt g) K
        refine aw_goto (off := -44) (tgt := 19) (by decide +kernel) (by decide) ?_
        exact hF
      · have hF := hF.2 hc
        refine aw_aload_n (k' := 0) (by decide +kernel) rfl ?_
        refine aw_iload_n (k' := 1) (by decide +kernel) rfl ?_
        refine aw_iload_n (k' := 3) (by decide +kernel) rfl ?_
        refine aw_iconst (n := -1) (by decide +kernel) ?_
        refine aw_ixor (by decide +kernel) ?_
        refine aw_iand (by decide +kernel) ?_
        refine aw_callV (y := yX12_isPeace) (M2 := mX12_isPeace) (as := [vI (iAnd y1 (iXor y3 (-1)))]) (S := []) (t := 171) (d2 := d) (b2 := 0) (b3 := b) cwX12_isPeace mlX12_447 imX12_isPeace seX12_isPeace (by decide +kernel) rfl (ci := 10) rfl (OB.at (ci := 10) (show shp 171 = (20, 0) by decide +kernel) (by decide)) (Nat.le_refl _) (Nat.le_of_eq (Nat.zero_add _)) rfl rfl (by simp [oneSlot]) (Nat.le_of_ble_eq_true rfl) (Ct.mono hF ?_)
        rintro o h' (⟨v1, g1, rfl, rfl, hG⟩ | ⟨E, g, rfl, rfl, hG⟩)
        · show AW Γ l mX12_quiet (d + 1) b 51 [vR 171, vI y1, vI y2, vI y3] [vI v1] (stt g1) K
          refine ax_if_eq (off := 7) (tgt := 58) (x' := wr v1) (by decide +kernel) (by decide) rfl (fun hc => ?_) (fun hc => ?_)
          · have hG := hG.1 hc
            refine aw_iload_n (k' := 2) (by decide +kernel) rfl ?_
            refine aw_istore_n (k' := 2) (by decide +kernel) (by decide) ?_
            show AW Γ l mX12_quiet (d + 1) b 60 [vR 171, vI y1, vI y2, vI y3] [] (stt g1) K
            refine aw_iinc (i := 3) (n := -1) (by decide +kernel) rfl (by decide) ?_
            show AW Γ l mX12_quiet (d + 1) b 63 [vR 171, vI y1, vI y2, vI (y3 + (-1))] [] (stt g1) K
            refine aw_goto (off := -44) (tgt := 19) (by decide +kernel) (by decide) ?_
            exact hG
          · have hG := hG.2 hc
            refine aw_iload_n (k' := 3) (by decide +kernel) rfl ?_
            refine aw_goto (off := 4) (tgt := 59) (by decide +kernel) (by decide) ?_
            refine aw_istore_n (k' := 2) (by decide +kernel) (by decide) ?_
            show AW Γ l mX12_quiet (d + 1) b 60 [vR 171, vI y1, vI y3, vI y3] [] (stt g1) K
            refine aw_iinc (i := 3) (n := -1) (by decide +kernel) rfl (by decide) ?_
            show AW Γ l mX12_quiet (d + 1) b 63 [vR 171, vI y1, vI y3, vI (y3 + (-1))] [] (stt g1) K
            refine aw_goto (off := -44) (tgt := 19) (by decide +kernel) (by decide) ?_
            exact hG
        · exact hG

set_option maxHeartbeats 1000000 in
theorem wpX12_areTold {Γ : Cfg} {l : Launch} {d b : Nat} {g : GG} {K : Ou → HP → Prop}  (hF : (¬ wr (iRem (g 171 11) 2) = 0 → AW Γ l mX12_areTold (d + 1) b 26 [vR 171, vI 0, vI 0] [] (stt g) K) ∧ (¬ (¬ wr (iRem (g 171 11) 2) = 0) → (40 < wr (g 171 11) → AW Γ l mX12_areTold (d + 1) b 26 [vR 171, vI 0, vI 0] [] (stt g) K) ∧ (¬ (40 < wr (g 171 11)) → AW Γ l mX12_areTold (d + 1) b 26 [vR 171, vI 1, vI 0] [] (stt g) K))) : Ct Γ l (d + 1) b yX12_areTold mX12_areTold [vR 171] (stt g) K := by
  refine Ct.enter (L := [vR 171, vU, vU]) rfl rfl rfl (by decide +kernel) (by simp [oneSlot]) (Nat.le_of_ble_eq_true rfl) rfl ?_
  refine aw_aload_n (k' := 0) (by decide +kernel) rfl ?_
  refine gfX12_102 rfl (by decide +kernel) (OB.at (ci := 10) (show shp 171 = (20, 0) by decide +kernel) (by decide)) ?_
  refine aw_iconst (n := 2) (by decide +kernel) ?_
  refine aw_irem (by decide +kernel) (by decide +kernel) ?_
  refine ax_if_ne (off := 16) (tgt := 22) (x' := wr (iRem (g 171 11) 2)) (by decide +kernel) (by decide) rfl (fun hc => ?_) (fun hc => ?_)
  · have hF := hF.1 hc
    refine aw_iconst (n := 0) (by decide +kernel) ?_
    refine aw_istore_n (k' := 1) (by decide +kernel) (by decide) ?_
    show AW Γ l mX12_areTold (d + 1) b 24 [vR 171, vI 0, vU] [] (stt g) K
    refine aw_iconst (n := 0) (by decide +kernel) ?_
    refine aw_istore_n (k' := 2) (by decide +kernel) (by decide) ?_
    show AW Γ l mX12_areTold (d + 1) b 26 [vR 171, vI 0, vI 0] [] (stt g) K
    exact hF
  · have hF := hF.2 hc
    refine aw_aload_n (k' := 0) (by decide +kernel) rfl ?_
    refine gfX12_102 rfl (by decide +kernel) (OB.at (ci := 10) (show shp 171 = (20, 0) by decide +kernel) (by decide)) ?_
    refine aw_bipush (n := 40) (by decide +kernel) (by decide +kernel) ?_
    refine ax_icmp_gt (off := 7) (tgt := 22) (x' := wr (g 171 11)) (y' := 40) (by decide +kernel) (by decide) rfl (by decide +kernel) (fun hc => ?_) (fun hc => ?_)
    · have hF := hF.1 hc
      refine aw_iconst (n := 0) (by decide +kernel) ?_
      refine aw_istore_n (k' := 1) (by decide +kernel) (by decide) ?_
      show AW Γ l mX12_areTold (d + 1) b 24 [vR 171, vI 0, vU] [] (stt g) K
      refine aw_iconst (n := 0) (by decide +kernel) ?_
      refine aw_istore_n (k' := 2) (by decide +kernel) (by decide) ?_
      show AW Γ l mX12_areTold (d + 1) b 26 [vR 171, vI 0, vI 0] [] (stt g) K
      exact hF
    · have hF := hF.2 hc
      refine aw_iconst (n := 1) (by decide +kernel) ?_
      refine aw_goto (off := 4) (tgt := 23) (by decide +kernel) (by decide) ?_
      refine aw_istore_n (k' := 1) (by decide +kernel) (by decide) ?_
      show AW Γ l mX12_areTold (d + 1) b 24 [vR 171, vI 1, vU] [] (stt g) K
      refine aw_iconst (n := 0) (by decide +kernel) ?_
      refine aw_istore_n (k' := 2) (by decide +kernel) (by decide) ?_
      show AW Γ l mX12_areTold (d + 1) b 26 [vR 171, vI 1, vI 0] [] (stt g) K
      exact hF
set_option maxHeartbeats 1000000 in
theorem wpX12_areTold_26 {Γ : Cfg} {l : Launch} {d b : Nat} {g : GG} {K : Ou → HP → Prop} {y1 : Int} {y2 : Int} (hF : (wr (g 171 11) ≤ wr y2 → (wr y1 = 0 ∨ wr y1 = 1) ∧ K (.inl (vI y1)) (stt g)) ∧ (¬ (wr (g 171 11) ≤ wr y2) → (wr y1 = 0 → (wr y1 = 0 ∨ wr y1 = 1) ∧ K (.inl (vI y1)) (stt g)) ∧ (¬ (wr y1 = 0) → (0 ≤ wr y2 ∧ wr y2 < 400) ∧ ((0 ≤ wr (g 177 (wr y2)) ∧ wr (g 177 (wr y2)) ≤ 11 → (0 ≤ wr (y2 + 1) ∧ wr (y2 + 1) < 400) ∧ ((0 ≤ wr (g 177 (wr (y2 + 1))) ∧ wr (g 177 (wr (y2 + 1))) ≤ 10 → AW Γ l mX12_areTold (d + 1) b 26 [vR 171, vI 1, vI (y2 + 2)] [] (stt g) K) ∧ (¬ (0 ≤ wr (g 177 (wr (y2 + 1))) ∧ wr (g 177 (wr (y2 + 1))) ≤ 10) → AW Γ l mX12_areTold (d + 1) b 26 [vR 171, vI 0, vI (y2 + 2)] [] (stt g) K))) ∧ (¬ (0 ≤ wr (g 177 (wr y2)) ∧ wr (g 177 (wr y2)) ≤ 11) → AW Γ l mX12_areTold (d + 1) b 26 [vR 171, vI 0, vI (y2 + 2)] [] (stt g) K))))) : AW Γ l mX12_areTold (d + 1) b 26 [vR 171, vI y1, vI y2] [] (stt g) K := by
  refine aw_iload_n (k' := 2) (by decide +kernel) rfl ?_
  refine aw_aload_n (k' := 0) (by decide +kernel) rfl ?_
  refine gfX12_102 rfl (by decide +kernel) (OB.at (ci := 10) (show shp 171 = (20, 0) by decide +kernel) (by decide)) ?_
  refine ax_icmp_ge (off := 51) (tgt := 82) (x' := wr y2) (y' := wr (g 171 11)) (by decide +kernel) (by decide) rfl rfl (fun hc => ?_) (fun hc => ?_)
  · have hF := hF.1 hc
    refine aw_iload_n (k' := 1) (by decide +kernel) rfl ?_
    exact aw_zret (by decide +kernel) rfl (nar_z hF.1) hF.2
  · have hF := hF.2 hc
    refine aw_iload_n (k' := 1) (by decide +kernel) rfl ?_
    refine ax_if_eq (off := 47) (tgt := 82) (x' := wr y1) (by decide +kernel) (by decide) rfl (fun hc => ?_) (fun hc => ?_)
    · have hF := hF.1 hc
      refine aw_iload_n (k' := 1) (by decide +kernel) rfl ?_
      exact aw_zret (by decide +kernel) rfl (nar_z hF.1) hF.2
    · have hF := hF.2 hc
      refine aw_aload_n (k' := 0) (by decide +kernel) rfl ?_
      refine gfX12_29 rfl (by decide +kernel) (OB.at (ci := 10) (show shp 171 = (20, 0) by decide +kernel) (by decide)) ?_
      refine AW.topR (show RC 171 8 = 177 by decide +kernel) ?_
      refine aw_iload_n (k' := 2) (by decide +kernel) rfl ?_
      refine ax_bald (i := wr y2) (by decide +kernel) (isA_lit (show shp 177 = (1, 400) by decide +kernel) (by decide)) rfl hF.1 ?_
      replace hF := hF.2
      refine aw_iconst (n := 0) (by decide +kernel) ?_
      refine aw_bipush (n := 11) (by decide +kernel) (by decide +kernel) ?_
      refine aw_callS (y := yX12_in) (M2 := mX12_in) (as := [vI (g 177 (wr y2)), vI 0, vI 11]) (S := []) (d2 := d) (b2 := 0) (b3 := b) cwX12_in mlX12_91 stX12_in (by decide +kernel) rfl (Nat.le_refl _) (Nat.le_of_eq (Nat.zero_add _)) rfl rfl (by simp [oneSlot]) (Nat.le_of_ble_eq_true rfl) (c_in (x' := wr (g 177 (wr y2))) (y' := 0) (z' := 11) rfl (by decide +kernel) (by decide +kernel) (fun hc => ?_) (fun hc => ?_))
      · have hF := hF.1 hc
        show AW Γ l mX12_areTold (d + 1) b 50 [vR 171, vI y1, vI y2] [vI 1] (stt g) K
        refine ax_if_eq (off := 24) (tgt := 74) (x' := 1) (by decide +kernel) (by decide) (by decide +kernel) (fun hc => absurd hc (by decide)) (fun hc => ?_)
        refine aw_aload_n (k' := 0) (by decide +kernel) rfl ?_
        refine gfX12_29 rfl (by decide +kernel) (OB.at (ci := 10) (show shp 171 = (20, 0) by decide +kernel) (by decide)) ?_
        refine AW.topR (show RC 171 8 = 177 by decide +kernel) ?_
        refine aw_iload_n (k' := 2) (by decide +kernel) rfl ?_
        refine aw_iconst (n := 1) (by decide +kernel) ?_
        refine aw_iadd (by decide +kernel) ?_
        refine ax_bald (i := wr (y2 + 1)) (by decide +kernel) (isA_lit (show shp 177 = (1, 400) by decide +kernel) (by decide)) rfl hF.1 ?_
        replace hF := hF.2
        refine aw_iconst (n := 0) (by decide +kernel) ?_
        refine aw_bipush (n := 10) (by decide +kernel) (by decide +kernel) ?_
        refine aw_callS (y := yX12_in) (M2 := mX12_in) (as := [vI (g 177 (wr (y2 + 1))), vI 0, vI 10]) (S := []) (d2 := d) (b2 := 0) (b3 := b) cwX12_in mlX12_91 stX12_in (by decide +kernel) rfl (Nat.le_refl _) (Nat.le_of_eq (Nat.zero_add _)) rfl rfl (by simp [oneSlot]) (Nat.le_of_ble_eq_true rfl) (c_in (x' := wr (g 177 (wr (y2 + 1)))) (y' := 0) (z' := 10) rfl (by decide +kernel) (by decide +kernel) (fun hc => ?_) (fun hc => ?_))
        · have hF := hF.1 hc
          show AW Γ l mX12_areTold (d + 1) b 67 [vR 171, vI y1, vI y2] [vI 1] (stt g) K
          refine ax_if_eq (off := 7) (tgt := 74) (x' := 1) (by decide +kernel) (by decide) (by decide +kernel) (fun hc => absurd hc (by decide)) (fun hc => ?_)
          refine aw_iconst (n := 1) (by decide +kernel) ?_
          refine aw_goto (off := 4) (tgt := 75) (by decide +kernel) (by decide) ?_
          refine aw_istore_n (k' := 1) (by decide +kernel) (by decide) ?_
          show AW Γ l mX12_areTold (d + 1) b 76 [vR 171, vI 1, vI y2] [] (stt g) K
          refine aw_iinc (i := 2) (n := 2) (by decide +kernel) rfl (by decide) ?_
          show AW Γ l mX12_areTold (d + 1) b 79 [vR 171, vI 1, vI (y2 + 2)] [] (stt g) K
          refine aw_goto (off := -53) (tgt := 26) (by decide +kernel) (by decide) ?_
          exact hF
        · have hF := hF.2 hc
          show AW Γ l mX12_areTold (d + 1) b 67 [vR 171, vI y1, vI y2] [vI 0] (stt g) K
          refine ax_if_eq (off := 7) (tgt := 74) (x' := 0) (by decide +kernel) (by decide) (by decide +kernel) (fun hc => ?_) (fun hc => absurd (by decide) hc)
          refine aw_iconst (n := 0) (by decide +kernel) ?_
          refine aw_istore_n (k' := 1) (by decide +kernel) (by decide) ?_
          show AW Γ l mX12_areTold (d + 1) b 76 [vR 171, vI 0, vI y2] [] (stt g) K
          refine aw_iinc (i := 2) (n := 2) (by decide +kernel) rfl (by decide) ?_
          show AW Γ l mX12_areTold (d + 1) b 79 [vR 171, vI 0, vI (y2 + 2)] [] (stt g) K
          refine aw_goto (off := -53) (tgt := 26) (by decide +kernel) (by decide) ?_
          exact hF
      · have hF := hF.2 hc
        show AW Γ l mX12_areTold (d + 1) b 50 [vR 171, vI y1, vI y2] [vI 0] (stt g) K
        refine ax_if_eq (off := 24) (tgt := 74) (x' := 0) (by decide +kernel) (by decide) (by decide +kernel) (fun hc => ?_) (fun hc => absurd (by decide) hc)
        refine aw_iconst (n := 0) (by decide +kernel) ?_
        refine aw_istore_n (k' := 1) (by decide +kernel) (by decide) ?_
        show AW Γ l mX12_areTold (d + 1) b 76 [vR 171, vI 0, vI y2] [] (stt g) K
        refine aw_iinc (i := 2) (n := 2) (by decide +kernel) rfl (by decide) ?_
        show AW Γ l mX12_areTold (d + 1) b 79 [vR 171, vI 0, vI (y2 + 2)] [] (stt g) K
        refine aw_goto (off := -53) (tgt := 26) (by decide +kernel) (by decide) ?_
        exact hF

set_option maxHeartbeats 1000000 in
theorem wpX12_kindAt {Γ : Cfg} {l : Launch} {d b : Nat} {g : GG} {K : Ou → HP → Prop} {x1 : Int} {x2 : Int} (hF : (okP x1 0) ∧ ((wr (ofP g x1 0) ≤ wr x2 → K (.inl (vI 10)) (stt g)) ∧ (¬ (wr (ofP g x1 0) ≤ wr x2) → (okP x1 (5 + 2 * x2)) ∧ (K (.inl (vI (ofP g x1 (5 + 2 * x2)))) (stt g))))) : Ct Γ l (d + 3) b yX12_kindAt mX12_kindAt [vR 171, vI x1, vI x2] (stt g) K := by
  refine Ct.enter (L := [vR 171, vI x1, vI x2]) rfl rfl rfl (by decide +kernel) (by simp [oneSlot]) (Nat.le_of_ble_eq_true rfl) rfl ?_
  refine aw_iload_n (k' := 2) (by decide +kernel) rfl ?_
  refine aw_aload_n (k' := 0) (by decide +kernel) rfl ?_
  refine aw_iload_n (k' := 1) (by decide +kernel) rfl ?_
  refine aw_iconst (n := 0) (by decide +kernel) ?_
  refine aw_callV (y := yX12_of) (M2 := mX12_of) (as := [vI x1, vI 0]) (S := [vI x2]) (t := 171) (d2 := (d + 2)) (b2 := 0) (b3 := b) cwX12_of mlX12_84 imX12_of seX12_of (by decide +kernel) rfl (ci := 10) rfl (OB.at (ci := 10) (show shp 171 = (20, 0) by decide +kernel) (by decide)) (Nat.le_refl _) (Nat.le_of_eq (Nat.zero_add _)) rfl rfl (by simp [oneSlot]) (Nat.le_of_ble_eq_true rfl) (c_of hF.1 ?_)
  show AW Γ l mX12_kindAt (d + 3) b 7 [vR 171, vI x1, vI x2] [vI (ofP g x1 0), vI x2] (stt g) K
  replace hF := hF.2
  refine ax_icmp_ge (off := 12) (tgt := 19) (x' := wr x2) (y' := wr (ofP g x1 0)) (by decide +kernel) (by decide) rfl rfl (fun hc => ?_) (fun hc => ?_)
  · have hF := hF.1 hc
    refine aw_bipush (n := 10) (by decide +kernel) (by decide +kernel) ?_
    exact aw_iret (by decide +kernel) rfl hF
  · have hF := hF.2 hc
    refine aw_aload_n (k' := 0) (by decide +kernel) rfl ?_
    refine aw_iload_n (k' := 1) (by decide +kernel) rfl ?_
    refine aw_iload_n (k' := 2) (by decide +kernel) rfl ?_
    refine aw_callV (y := yX12_kindOf) (M2 := mX12_kindOf) (as := [vI x1, vI x2]) (S := []) (t := 171) (d2 := (d + 2)) (b2 := 0) (b3 := b) cwX12_kindOf mlX12_303 imX12_kindOf seX12_kindOf (by decide +kernel) rfl (ci := 10) rfl (OB.at (ci := 10) (show shp 171 = (20, 0) by decide +kernel) (by decide)) (Nat.le_refl _) (Nat.le_of_eq (Nat.zero_add _)) rfl rfl (by simp [oneSlot]) (Nat.le_of_ble_eq_true rfl) (c_kindOf hF.1 ?_)
    show AW Γ l mX12_kindAt (d + 3) b 16 [vR 171, vI x1, vI x2] [vI (ofP g x1 (5 + 2 * x2))] (stt g) K
    replace hF := hF.2
    refine aw_goto (off := 5) (tgt := 21) (by decide +kernel) (by decide) ?_
    exact aw_iret (by decide +kernel) rfl hF

set_option maxHeartbeats 1000000 in
theorem wpX12_wrongRows {Γ : Cfg} {l : Launch} {d b : Nat} {g : GG} {K : Ou → HP → Prop} {x1 : Int} (hF : AW Γ l mX12_wrongRows (d + 1) b 4 [vR 171, vI x1, vI 0, vI 0] [] (stt g) K) : Ct Γ l (d + 1) b yX12_wrongRows mX12_wrongRows [vR 171, vI x1] (stt g) K := by
  refine Ct.enter (L := [vR 171, vI x1, vU, vU]) rfl rfl rfl (by decide +kernel) (by simp [oneSlot]) (Nat.le_of_ble_eq_true rfl) rfl ?_
  refine aw_iconst (n := 0) (by decide +kernel) ?_
  refine aw_istore_n (k' := 2) (by decide +kernel) (by decide) ?_
  show AW Γ l mX12_wrongRows (d + 1) b 2 [vR 171, vI x1, vI 0, vU] [] (stt g) K
  refine aw_iconst (n := 0) (by decide +kernel) ?_
  refine aw_istore_n (k' := 3) (by decide +kernel) (by decide) ?_
  show AW Γ l mX12_wrongRows (d + 1) b 4 [vR 171, vI x1, vI 0, vI 0] [] (stt g) K
  exact hF
set_option maxHeartbeats 1000000 in
theorem wpX12_wrongRows_4 {Γ : Cfg} {l : Launch} {d b : Nat} {g : GG} {K : Ou → HP → Prop} {x1 : Int} {y2 : Int} {y3 : Int} (hF : (wr (g 171 11) ≤ wr y3 → K (.inl (vI y2)) (stt g)) ∧ (¬ (wr (g 171 11) ≤ wr y3) → (0 ≤ wr y3 ∧ wr y3 < 400) ∧ (Ct Γ l d 0 yX12_kindAt mX12_kindAt [vR 171, vI x1, vI (g 177 (wr y3))] (stt g) (bI (fun v1 g1 => (0 ≤ wr (y3 + 1) ∧ wr (y3 + 1) < 400) ∧ ((¬ wr v1 = wr (g1 177 (wr (y3 + 1))) → AW Γ l mX12_wrongRows (d + 1) b 4 [vR 171, vI x1, vI (y2 + 1), vI (y3 + 2)] [] (stt g1) K) ∧ (¬ (¬ wr v1 = wr (g1 177 (wr (y3 + 1)))) → AW Γ l mX12_wrongRows (d + 1) b 4 [vR 171, vI x1, vI (y2 + 0), vI (y3 + 2)] [] (stt g1) K))) K)))) : AW Γ l mX12_wrongRows (d + 1) b 4 [vR 171, vI x1, vI y2, vI y3] [] (stt g) K := by
  refine aw_iload_n (k' := 3) (by decide +kernel) rfl ?_
  refine aw_aload_n (k' := 0) (by decide +kernel) rfl ?_
  refine gfX12_102 rfl (by decide +kernel) (OB.at (ci := 10) (show shp 171 = (20, 0) by decide +kernel) (by decide)) ?_
  refine ax_icmp_ge (off := 39) (tgt := 48) (x' := wr y3) (y' := wr (g 171 11)) (by decide +kernel) (by decide) rfl rfl (fun hc => ?_) (fun hc => ?_)
  · have hF := hF.1 hc
    refine aw_iload_n (k' := 2) (by decide +kernel) rfl ?_
    exact aw_iret (by decide +kernel) rfl hF
  · have hF := hF.2 hc
    refine aw_iload_n (k' := 2) (by decide +kernel) rfl ?_
    refine aw_aload_n (k' := 0) (by decide +kernel) rfl ?_
    refine aw_iload_n (k' := 1) (by decide +kernel) rfl ?_
    refine aw_aload_n (k' := 0) (by decide +kernel) rfl ?_
    refine gfX12_29 rfl (by decide +kernel) (OB.at (ci := 10) (show shp 171 = (20, 0) by decide +kernel) (by decide)) ?_
    refine AW.topR (show RC 171 8 = 177 by decide +kernel) ?_
    refine aw_iload_n (k' := 3) (by decide +kernel) rfl ?_
    refine ax_bald (i := wr y3) (by decide +kernel) (isA_lit (show shp 177 = (1, 400) by decide +kernel) (by decide)) rfl hF.1 ?_
    replace hF := hF.2
    refine aw_callV (y := yX12_kindAt) (M2 := mX12_kindAt) (as := [vI x1, vI (g 177 (wr y3))]) (S := [vI y2]) (t := 171) (d2 := d) (b2 := 0) (b3 := b) cwX12_kindAt mlX12_450 imX12_kindAt seX12_kindAt (by decide +kernel) rfl (ci := 10) rfl (OB.at (ci := 10) (show shp 171 = (20, 0) by decide +kernel) (by decide)) (Nat.le_refl _) (Nat.le_of_eq (Nat.zero_add _)) rfl rfl (by simp [oneSlot]) (Nat.le_of_ble_eq_true rfl) (Ct.mono hF ?_)
    rintro o h' (⟨v1, g1, rfl, rfl, hG⟩ | ⟨E, g, rfl, rfl, hG⟩)
    · show AW Γ l mX12_wrongRows (d + 1) b 24 [vR 171, vI x1, vI y2, vI y3] [vI v1, vI y2] (stt g1) K
      refine aw_aload_n (k' := 0) (by decide +kernel) rfl ?_
      refine gfX12_29 rfl (by decide +kernel) (OB.at (ci := 10) (show shp 171 = (20, 0) by decide +kernel) (by decide)) ?_
      refine AW.topR (show RC 171 8 = 177 by decide +kernel) ?_
      refine aw_iload_n (k' := 3) (by decide +kernel) rfl ?_
      refine aw_iconst (n := 1) (by decide +kernel) ?_
      refine aw_iadd (by decide +kernel) ?_
      refine ax_bald (i := wr (y3 + 1)) (by decide +kernel) (isA_lit (show shp 177 = (1, 400) by decide +kernel) (by decide)) rfl hG.1 ?_
      replace hG := hG.2
      refine ax_icmp_ne (off := 7) (tgt := 39) (x' := wr v1) (y' := wr (g1 177 (wr (y3 + 1)))) (by decide +kernel) (by decide) rfl rfl (fun hc => ?_) (fun hc => ?_)
      · have hG := hG.1 hc
        refine aw_iconst (n := 1) (by decide +kernel) ?_
        refine aw_iadd (by decide +kernel) ?_
        refine aw_istore_n (k' := 2) (by decide +kernel) (by decide) ?_
        show AW Γ l mX12_wrongRows (d + 1) b 42 [vR 171, vI x1, vI (y2 + 1), vI y3] [] (stt g1) K
        refine aw_iinc (i := 3) (n := 2) (by decide +kernel) rfl (by decide) ?_
        show AW Γ l mX12_wrongRows (d + 1) b 45 [vR 171, vI x1, vI (y2 + 1), vI (y3 + 2)] [] (stt g1) K
        refine aw_goto (off := -41) (tgt := 4) (by decide +kernel) (by decide) ?_
        exact hG
      · have hG := hG.2 hc
        refine aw_iconst (n := 0) (by decide +kernel) ?_
        refine aw_goto (off := 4) (tgt := 40) (by decide +kernel) (by decide) ?_
        refine aw_iadd (by decide +kernel) ?_
        refine aw_istore_n (k' := 2) (by decide +kernel) (by decide) ?_
        show AW Γ l mX12_wrongRows (d + 1) b 42 [vR 171, vI x1, vI (y2 + 0), vI y3] [] (stt g1) K
        refine aw_iinc (i := 3) (n := 2) (by decide +kernel) rfl (by decide) ?_
        show AW Γ l mX12_wrongRows (d + 1) b 45 [vR 171, vI x1, vI (y2 + 0), vI (y3 + 2)] [] (stt g1) K
        refine aw_goto (off := -41) (tgt := 4) (by decide +kernel) (by decide) ?_
        exact hG
    · exact hG

set_option maxHeartbeats 1000000 in
theorem wpX12_thatFit {Γ : Cfg} {l : Launch} {d b : Nat} {g : GG} {K : Ou → HP → Prop} {x1 : Int} (hF : AW Γ l mX12_thatFit (d + 1) b 4 [vR 171, vI x1, vI 0, vI 0] [] (stt g) K) : Ct Γ l (d + 1) b yX12_thatFit mX12_thatFit [vR 171, vI x1] (stt g) K := by
  refine Ct.enter (L := [vR 171, vI x1, vU, vU]) rfl rfl rfl (by decide +kernel) (by simp [oneSlot]) (Nat.le_of_ble_eq_true rfl) rfl ?_
  refine aw_iconst (n := 0) (by decide +kernel) ?_
  refine aw_istore_n (k' := 2) (by decide +kernel) (by decide) ?_
  show AW Γ l mX12_thatFit (d + 1) b 2 [vR 171, vI x1, vI 0, vU] [] (stt g) K
  refine aw_iconst (n := 0) (by decide +kernel) ?_
  refine aw_istore_n (k' := 3) (by decide +kernel) (by decide) ?_
  show AW Γ l mX12_thatFit (d + 1) b 4 [vR 171, vI x1, vI 0, vI 0] [] (stt g) K
  exact hF
set_option maxHeartbeats 1000000 in
theorem wpX12_thatFit_4 {Γ : Cfg} {l : Launch} {d b : Nat} {g : GG} {K : Ou → HP → Prop} {x1 : Int} {y2 : Int} {y3 : Int} (hF : (wr (g 172 0) ≤ wr y3 → K (.inl (vI y2)) (stt g)) ∧ (¬ (wr (g 172 0) ≤ wr y3) → Ct Γ l d 0 yX12_wrongRows mX12_wrongRows [vR 171, vI y3] (stt g) (bI (fun v1 g1 => (wr x1 < wr v1 → AW Γ l mX12_thatFit (d + 1) b 4 [vR 171, vI x1, vI (iOr y2 0), vI (y3 + 1)] [] (stt g1) K) ∧ (¬ (wr x1 < wr v1) → AW Γ l mX12_thatFit (d + 1) b 4 [vR 171, vI x1, vI (iOr y2 (iShl 1 y3)), vI (y3 + 1)] [] (stt g1) K)) K))) : AW Γ l mX12_thatFit (d + 1) b 4 [vR 171, vI x1, vI y2, vI y3] [] (stt g) K := by
  refine aw_iload_n (k' := 3) (by decide +kernel) rfl ?_
  refine aw_aload_n (k' := 0) (by decide +kernel) rfl ?_
  refine aw_callV (y := yX12_people) (M2 := mX12_people) (as := []) (S := [vI y3]) (t := 171) (d2 := d) (b2 := 0) (b3 := b) cwX12_people mlX12_87 imX12_people seX12_people (by decide +kernel) rfl (ci := 10) rfl (OB.at (ci := 10) (show shp 171 = (20, 0) by decide +kernel) (by decide)) (Nat.le_refl _) (Nat.le_of_eq (Nat.zero_add _)) rfl rfl (by simp [oneSlot]) (Nat.le_of_ble_eq_true rfl) (c_people ?_)
  show AW Γ l mX12_thatFit (d + 1) b 9 [vR 171, vI x1, vI y2, vI y3] [vI (g 172 0), vI y3] (stt g) K
  refine ax_icmp_ge (off := 28) (tgt := 37) (x' := wr y3) (y' := wr (g 172 0)) (by decide +kernel) (by decide) rfl rfl (fun hc => ?_) (fun hc => ?_)
  · have hF := hF.1 hc
    refine aw_iload_n (k' := 2) (by decide +kernel) rfl ?_
    exact aw_iret (by decide +kernel) rfl hF
  · have hF := hF.2 hc
    refine aw_iload_n (k' := 2) (by decide +kernel) rfl ?_
    refine aw_aload_n (k' := 0) (by decide +kernel) rfl ?_
    refine aw_iload_n (k' := 3) (by decide +kernel) rfl ?_
    refine aw_callV (y := yX12_wrongRows) (M2 := mX12_wrongRows) (as := [vI y3]) (S := [vI y2]) (t := 171) (d2 := d) (b2 := 0) (b3 := b) cwX12_wrongRows mlX12_453 imX12_wrongRows seX12_wrongRows (by decide +kernel) rfl (ci := 10) rfl (OB.at (ci := 10) (show shp 171 = (20, 0) by decide +kernel) (by decide)) (Nat.le_refl _) (Nat.le_of_eq (Nat.zero_add _)) rfl rfl (by simp [oneSlot]) (Nat.le_of_ble_eq_true rfl) (Ct.mono hF ?_)
    rintro o h' (⟨v1, g1, rfl, rfl, hG⟩ | ⟨E, g, rfl, rfl, hG⟩)
    · show AW Γ l mX12_thatFit (d + 1) b 18 [vR 171, vI x1, vI y2, vI y3] [vI v1, vI y2] (stt g1) K
      refine aw_iload_n (k' := 1) (by decide +kernel) rfl ?_
      refine ax_icmp_gt (off := 9) (tgt := 28) (x' := wr v1) (y' := wr x1) (by decide +kernel) (by decide) rfl rfl (fun hc => ?_) (fun hc => ?_)
      · have hG := hG.1 hc
        refine aw_iconst (n := 0) (by decide +kernel) ?_
        refine aw_ior (by decide +kernel) ?_
        refine aw_istore_n (k' := 2) (by decide +kernel) (by decide) ?_
        show AW Γ l mX12_thatFit (d + 1) b 31 [vR 171, vI x1, vI (iOr y2 0), vI y3] [] (stt g1) K
        refine aw_iinc (i := 3) (n := 1) (by decide +kernel) rfl (by decide) ?_
        show AW Γ l mX12_thatFit (d + 1) b 34 [vR 171, vI x1, vI (iOr y2 0), vI (y3 + 1)] [] (stt g1) K
        refine aw_goto (off := -30) (tgt := 4) (by decide +kernel) (by decide) ?_
        exact hG
      · have hG := hG.2 hc
        refine aw_iconst (n := 1) (by decide +kernel) ?_
        refine aw_iload_n (k' := 3) (by decide +kernel) rfl ?_
        refine aw_ishl (by decide +kernel) ?_
        refine aw_goto (off := 4) (tgt := 29) (by decide +kernel) (by decide) ?_
        refine aw_ior (by decide +kernel) ?_
        refine aw_istore_n (k' := 2) (by decide +kernel) (by decide) ?_
        show AW Γ l mX12_thatFit (d + 1) b 31 [vR 171, vI x1, vI (iOr y2 (iShl 1 y3)), vI y3] [] (stt g1) K
        refine aw_iinc (i := 3) (n := 1) (by decide +kernel) rfl (by decide) ?_
        show AW Γ l mX12_thatFit (d + 1) b 34 [vR 171, vI x1, vI (iOr y2 (iShl 1 y3)), vI (y3 + 1)] [] (stt g1) K
        refine aw_goto (off := -30) (tgt := 4) (by decide +kernel) (by decide) ?_
        exact hG
    · exact hG

set_option maxHeartbeats 1000000 in
theorem wpX12_whose {Γ : Cfg} {l : Launch} {d b : Nat} {g : GG} {K : Ou → HP → Prop}  (hF : Ct Γ l d 0 yX12_uses mX12_uses [vR 171] (stt g) (bV (fun g1 => Ct Γ l d 0 yX12_areTold mX12_areTold [vR 171] (stt g1) (bI (fun v1 g2 => (¬ wr v1 = 0 → Ct Γ l d 0 yX12_thatFit mX12_thatFit [vR 171, vI 1] (stt g2) (bI (fun v2 g3 => K (.inl (vI v2)) (stt g3)) K)) ∧ (¬ (¬ wr v1 = 0) → K (.inl (vI 0)) (stt (upd2 g2 171 0 1)))) K)) K)) : Ct Γ l (d + 1) b yX12_whose mX12_whose [vR 171] (stt g) K := by
  refine Ct.enter (L := [vR 171]) rfl rfl rfl (by decide +kernel) (by simp [oneSlot]) (Nat.le_of_ble_eq_true rfl) rfl ?_
  refine aw_aload_n (k' := 0) (by decide +kernel) rfl ?_
  refine aw_callV (y := yX12_uses) (M2 := mX12_uses) (as := []) (S := []) (t := 171) (d2 := d) (b2 := 0) (b3 := b) cwX12_uses mlX12_268 imX12_uses seX12_uses (by decide +kernel) rfl (ci := 10) rfl (OB.at (ci := 10) (show shp 171 = (20, 0) by decide +kernel) (by decide)) (Nat.le_refl _) (Nat.le_of_eq (Nat.zero_add _)) rfl rfl (by simp [oneSlot]) (Nat.le_of_ble_eq_true rfl) (Ct.mono hF ?_)
  rintro o h' (⟨g1, rfl, rfl, hG⟩ | ⟨E, g, rfl, rfl, hG⟩)
  · show AW Γ l mX12_whose (d + 1) b 4 [vR 171] [] (stt g1) K
    refine aw_aload_n (k' := 0) (by decide +kernel) rfl ?_
    refine aw_aload_n (k' := 0) (by decide +kernel) rfl ?_
    refine aw_callV (y := yX12_areTold) (M2 := mX12_areTold) (as := []) (S := [vR 171]) (t := 171) (d2 := d) (b2 := 0) (b3 := b) cwX12_areTold mlX12_456 imX12_areTold seX12_areTold (by decide +kernel) rfl (ci := 10) rfl (OB.at (ci := 10) (show shp 171 = (20, 0) by decide +kernel) (by decide)) (Nat.le_refl _) (Nat.le_of_eq (Nat.zero_add _)) rfl rfl (by simp [oneSlot]) (Nat.le_of_ble_eq_true rfl) (Ct.mono hG ?_)
    rintro o h' (⟨v1, g2, rfl, rfl, hG⟩ | ⟨E, g, rfl, rfl, hG⟩)
    · show AW Γ l mX12_whose (d + 1) b 9 [vR 171] [vI v1, vR 171] (stt g2) K
      refine ax_if_ne (off := 7) (tgt := 16) (x' := wr v1) (by decide +kernel) (by decide) rfl (fun hc => ?_) (fun hc => ?_)
      · have hG := hG.1 hc
        refine aw_iconst (n := 0) (by decide +kernel) ?_
        refine aw_iconst (n := 1) (by decide +kernel) ?_
        refine aw_callV (y := yX12_throwsIf) (M2 := mX12_throwsIf) (as := [vI 0, vI 1]) (S := []) (t := 171) (d2 := d) (b2 := 0) (b3 := b) cwX12_throwsIf mlX12_279 imX12_throwsIf seX12_throwsIf (by decide +kernel) rfl (ci := 10) rfl (OB.at (ci := 10) (show shp 171 = (20, 0) by decide +kernel) (by decide)) (Nat.le_refl _) (Nat.le_of_eq (Nat.zero_add _)) rfl rfl (by simp [oneSlot]) (Nat.le_of_ble_eq_true rfl) (c_throwsIf0 ?_)
        show AW Γ l mX12_whose (d + 1) b 21 [vR 171] [vI 0] (stt g2) K
        refine ax_if_eq (off := 7) (tgt := 28) (x' := 0) (by decide +kernel) (by decide) (by decide +kernel) (fun hc => ?_) (fun hc => absurd (by decide) hc)
        refine aw_aload_n (k' := 0) (by decide +kernel) rfl ?_
        refine aw_iconst (n := 1) (by decide +kernel) ?_
        refine aw_callV (y := yX12_thatFit) (M2 := mX12_thatFit) (as := [vI 1]) (S := []) (t := 171) (d2 := d) (b2 := 0) (b3 := b) cwX12_thatFit mlX12_459 imX12_thatFit seX12_thatFit (by decide +kernel) rfl (ci := 10) rfl (OB.at (ci := 10) (show shp 171 = (20, 0) by decide +kernel) (by decide)) (Nat.le_refl _) (Nat.le_of_eq (Nat.zero_add _)) rfl rfl (by simp [oneSlot]) (Nat.le_of_ble_eq_true rfl) (Ct.mono hG ?_)
        rintro o h' (⟨v2, g3, rfl, rfl, hG⟩ | ⟨E, g, rfl, rfl, hG⟩)
        · show AW Γ l mX12_whose (d + 1) b 33 [vR 171] [vI v2] (stt g3) K
          exact aw_iret (by decide +kernel) rfl hG
        · exact hG
      · have hG := hG.2 hc
        refine aw_iconst (n := 1) (by decide +kernel) ?_
        refine aw_goto (off := 4) (tgt := 17) (by decide +kernel) (by decide) ?_
        refine aw_iconst (n := 1) (by decide +kernel) ?_
        refine aw_callV (y := yX12_throwsIf) (M2 := mX12_throwsIf) (as := [vI 1, vI 1]) (S := []) (t := 171) (d2 := d) (b2 := 0) (b3 := b) cwX12_throwsIf mlX12_279 imX12_throwsIf seX12_throwsIf (by decide +kernel) rfl (ci := 10) rfl (OB.at (ci := 10) (show shp 171 = (20, 0) by decide +kernel) (by decide)) (Nat.le_refl _) (Nat.le_of_eq (Nat.zero_add _)) rfl rfl (by simp [oneSlot]) (Nat.le_of_ble_eq_true rfl) (c_throwsIf1 ?_)
        show AW Γ l mX12_whose (d + 1) b 21 [vR 171] [vI 1] (stt (upd2 g2 171 0 1)) K
        refine ax_if_eq (off := 7) (tgt := 28) (x' := 1) (by decide +kernel) (by decide) (by decide +kernel) (fun hc => absurd hc (by decide)) (fun hc => ?_)
        refine aw_iconst (n := 0) (by decide +kernel) ?_
        refine aw_goto (off := 8) (tgt := 33) (by decide +kernel) (by decide) ?_
        exact aw_iret (by decide +kernel) rfl hG
    · exact hG
  · exact hG

set_option maxHeartbeats 1000000 in
theorem wpX12_firstOf {Γ : Cfg} {l : Launch} {d b : Nat} {g : GG} {K : Ou → HP → Prop} {x0 : Int} (hF : K (.inl (vI (iNTZ x0))) (stt g)) : Ct Γ l (d + 1) b yX12_firstOf mX12_firstOf [vI x0] (stt g) K := by
  refine Ct.enter (L := [vI x0]) rfl rfl rfl (by decide +kernel) (by simp [oneSlot]) (Nat.le_of_ble_eq_true rfl) rfl ?_
  refine aw_iload_n (k' := 0) (by decide +kernel) rfl ?_
  refine aw_callS (y := yJ6_numberOfTrailingZeros_0f7a4) (M2 := mJ6_numberOfTrailingZeros_0f7a4) (as := [vI x0]) (S := []) (d2 := d) (b2 := 0) (b3 := b) cwJ6_numberOfTrailingZeros_0f7a4 mlX12_423 stJ6_numberOfTrailingZeros_0f7a4 (by decide +kernel) rfl (Nat.le_refl _) (Nat.le_of_eq (Nat.zero_add _)) rfl rfl (by simp [oneSlot]) (Nat.le_of_ble_eq_true rfl) (c_ntz ?_)
  show AW Γ l mX12_firstOf (d + 1) b 4 [vI x0] [vI (iNTZ x0)] (stt g) K
  exact aw_iret (by decide +kernel) rfl hF

set_option maxHeartbeats 1000000 in
theorem wpX12_likely {Γ : Cfg} {l : Launch} {d b : Nat} {g : GG} {K : Ou → HP → Prop}  (hF : Ct Γ l d 0 yX12_uses mX12_uses [vR 171] (stt g) (bV (fun g1 => Ct Γ l d 0 yX12_areTold mX12_areTold [vR 171] (stt g1) (bI (fun v1 g2 => (¬ wr v1 = 0 → Ct Γ l d 0 yX12_thatFit mX12_thatFit [vR 171, vI 0] (stt g2) (bI (fun v2 g3 => (wr v2 = 0 → Ct Γ l d 0 yX12_thatFit mX12_thatFit [vR 171, vI 1] (stt g3) (bI (fun v3 g4 => (¬ wr v3 = 0 → Ct Γ l d 0 yX12_firstOf mX12_firstOf [vI v3] (stt g4) (bI (fun v4 g5 => K (.inl (vI v4)) (stt g5)) K)) ∧ (¬ (¬ wr v3 = 0) → K (.inl (vI (-1))) (stt g4))) K)) ∧ (¬ (wr v2 = 0) → Ct Γ l d 0 yX12_thatFit mX12_thatFit [vR 171, vI 0] (stt g3) (bI (fun v5 g6 => (¬ wr v5 = 0 → Ct Γ l d 0 yX12_firstOf mX12_firstOf [vI v5] (stt g6) (bI (fun v6 g7 => K (.inl (vI v6)) (stt g7)) K)) ∧ (¬ (¬ wr v5 = 0) → K (.inl (vI (-1))) (stt g6))) K))) K)) ∧ (¬ (¬ wr v1 = 0) → K (.inl (vI 0)) (stt (upd2 g2 171 0 1)))) K)) K)) : Ct Γ l (d + 1) b yX12_likely mX12_likely [vR 171] (stt g) K := by
  refine Ct.enter (L := [vR 171, vU]) rfl rfl rfl (by decide +kernel) (by simp [oneSlot]) (Nat.le_of_ble_eq_true rfl) rfl ?_
  refine aw_aload_n (k' := 0) (by decide +kernel) rfl ?_
  refine aw_callV (y := yX12_uses) (M2 := mX12_uses) (as := []) (S := []) (t := 171) (d2 := d) (b2 := 0) (b3 := b) cwX12_uses mlX12_268 imX12_uses seX12_uses (by decide +kernel) rfl (ci := 10) rfl (OB.at (ci := 10) (show shp 171 = (20, 0) by decide +kernel) (by decide)) (Nat.le_refl _) (Nat.le_of_eq (Nat.zero_add _)) rfl rfl (by simp [oneSlot]) (Nat.le_of_ble_eq_true rfl) (Ct.mono hF ?_)
  rintro o h' (⟨g1, rfl, rfl, hG⟩ | ⟨E, g, rfl, rfl, hG⟩)
  · show AW Γ l mX12_likely (d + 1) b 4 [vR 171, vU] [] (stt g1) K
    refine aw_aload_n (k' := 0) (by decide +kernel) rfl ?_
    refine aw_aload_n (k' := 0) (by decide +kernel) rfl ?_
    refine aw_callV (y := yX12_areTold) (M2 := mX12_areTold) (as := []) (S := [vR 171]) (t := 171) (d2 := d) (b2 := 0) (b3 := b) cwX12_areTold mlX12_456 imX12_areTold seX12_areTold (by decide +kernel) rfl (ci := 10) rfl (OB.at (ci := 10) (show shp 171 = (20, 0) by decide +kernel) (by decide)) (Nat.le_refl _) (Nat.le_of_eq (Nat.zero_add _)) rfl rfl (by simp [oneSlot]) (Nat.le_of_ble_eq_true rfl) (Ct.mono hG ?_)
    rintro o h' (⟨v1, g2, rfl, rfl, hG⟩ | ⟨E, g, rfl, rfl, hG⟩)
    · show AW Γ l mX12_likely (d + 1) b 9 [vR 171, vU] [vI v1, vR 171] (stt g2) K
      refine ax_if_ne (off := 7) (tgt := 16) (x' := wr v1) (by decide +kernel) (by decide) rfl (fun hc => ?_) (fun hc => ?_)
      · have hG := hG.1 hc
        refine aw_iconst (n := 0) (by decide +kernel) ?_
        refine aw_iconst (n := 1) (by decide +kernel) ?_
        refine aw_callV (y := yX12_throwsIf) (M2 := mX12_throwsIf) (as := [vI 0, vI 1]) (S := []) (t := 171) (d2 := d) (b2 := 0) (b3 := b) cwX12_throwsIf mlX12_279 imX12_throwsIf seX12_throwsIf (by decide +kernel) rfl (ci := 10) rfl (OB.at (ci := 10) (show shp 171 = (20, 0) by decide +kernel) (by decide)) (Nat.le_refl _) (Nat.le_of_eq (Nat.zero_add _)) rfl rfl (by simp [oneSlot]) (Nat.le_of_ble_eq_true rfl) (c_throwsIf0 ?_)
        show AW Γ l mX12_likely (d + 1) b 21 [vR 171, vU] [vI 0] (stt g2) K
        refine ax_if_eq (off := 5) (tgt := 26) (x' := 0) (by decide +kernel) (by decide) (by decide +kernel) (fun hc => ?_) (fun hc => absurd (by decide) hc)
        refine aw_aload_n (k' := 0) (by decide +kernel) rfl ?_
        refine aw_iconst (n := 0) (by decide +kernel) ?_
        refine aw_callV (y := yX12_thatFit) (M2 := mX12_thatFit) (as := [vI 0]) (S := []) (t := 171) (d2 := d) (b2 := 0) (b3 := b) cwX12_thatFit mlX12_459 imX12_thatFit seX12_thatFit (by decide +kernel) rfl (ci := 10) rfl (OB.at (ci := 10) (show shp 171 = (20, 0) by decide +kernel) (by decide)) (Nat.le_refl _) (Nat.le_of_eq (Nat.zero_add _)) rfl rfl (by simp [oneSlot]) (Nat.le_of_ble_eq_true rfl) (Ct.mono hG ?_)
        rintro o h' (⟨v2, g3, rfl, rfl, hG⟩ | ⟨E, g, rfl, rfl, hG⟩)
        · show AW Γ l mX12_likely (d + 1) b 31 [vR 171, vU] [vI v2] (stt g3) K
          refine ax_if_eq (off := 11) (tgt := 42) (x' := wr v2) (by decide +kernel) (by decide) rfl (fun hc => ?_) (fun hc => ?_)
          · have hG := hG.1 hc
            refine aw_aload_n (k' := 0) (by decide +kernel) rfl ?_
            refine aw_iconst (n := 1) (by decide +kernel) ?_
            refine aw_callV (y := yX12_thatFit) (M2 := mX12_thatFit) (as := [vI 1]) (S := []) (t := 171) (d2 := d) (b2 := 0) (b3 := b) cwX12_thatFit mlX12_459 imX12_thatFit seX12_thatFit (by decide +kernel) rfl (ci := 10) rfl (OB.at (ci := 10) (show shp 171 = (20, 0) by decide +kernel) (by decide)) (Nat.le_refl _) (Nat.le_of_eq (Nat.zero_add _)) rfl rfl (by simp [oneSlot]) (Nat.le_of_ble_eq_true rfl) (Ct.mono hG ?_)
            rintro o h' (⟨v3, g4, rfl, rfl, hG⟩ | ⟨E, g, rfl, rfl, hG⟩)
            · show AW Γ l mX12_likely (d + 1) b 47 [vR 171, vU] [vI v3] (stt g4) K
              refine aw_istore_n (k' := 1) (by decide +kernel) (by decide) ?_
              show AW Γ l mX12_likely (d + 1) b 48 [vR 171, vI v3] [] (stt g4) K
              refine aw_iload_n (k' := 1) (by decide +kernel) rfl ?_
              refine ax_if_ne (off := 7) (tgt := 56) (x' := wr v3) (by decide +kernel) (by decide) rfl (fun hc => ?_) (fun hc => ?_)
              · have hG := hG.1 hc
                refine aw_iload_n (k' := 1) (by decide +kernel) rfl ?_
                refine aw_callS (y := yX12_firstOf) (M2 := mX12_firstOf) (as := [vI v3]) (S := []) (d2 := d) (b2 := 0) (b3 := b) cwX12_firstOf mlX12_462 stX12_firstOf (by decide +kernel) rfl (Nat.le_refl _) (Nat.le_of_eq (Nat.zero_add _)) rfl rfl (by simp [oneSlot]) (Nat.le_of_ble_eq_true rfl) (Ct.mono hG ?_)
                rintro o h' (⟨v4, g5, rfl, rfl, hG⟩ | ⟨E, g, rfl, rfl, hG⟩)
                · show AW Γ l mX12_likely (d + 1) b 60 [vR 171, vI v3] [vI v4] (stt g5) K
                  exact aw_iret (by decide +kernel) rfl hG
                · exact hG
              · have hG := hG.2 hc
                refine aw_iconst (n := -1) (by decide +kernel) ?_
                refine aw_goto (off := 7) (tgt := 60) (by decide +kernel) (by decide) ?_
                exact aw_iret (by decide +kernel) rfl hG
            · exact hG
          · have hG := hG.2 hc
            refine aw_aload_n (k' := 0) (by decide +kernel) rfl ?_
            refine aw_iconst (n := 0) (by decide +kernel) ?_
            refine aw_callV (y := yX12_thatFit) (M2 := mX12_thatFit) (as := [vI 0]) (S := []) (t := 171) (d2 := d) (b2 := 0) (b3 := b) cwX12_thatFit mlX12_459 imX12_thatFit seX12_thatFit (by decide +kernel) rfl (ci := 10) rfl (OB.at (ci := 10) (show shp 171 = (20, 0) by decide +kernel) (by decide)) (Nat.le_refl _) (Nat.le_of_eq (Nat.zero_add _)) rfl rfl (by simp [oneSlot]) (Nat.le_of_ble_eq_true rfl) (Ct.mono hG ?_)
            rintro o h' (⟨v5, g6, rfl, rfl, hG⟩ | ⟨E, g, rfl, rfl, hG⟩)
            · show AW Γ l mX12_likely (d + 1) b 39 [vR 171, vU] [vI v5] (stt g6) K
              refine aw_goto (off := 8) (tgt := 47) (by decide +kernel) (by decide) ?_
              refine aw_istore_n (k' := 1) (by decide +kernel) (by decide) ?_
              show AW Γ l mX12_likely (d + 1) b 48 [vR 171, vI v5] [] (stt g6) K
              refine aw_iload_n (k' := 1) (by decide +kernel) rfl ?_
              refine ax_if_ne (off := 7) (tgt := 56) (x' := wr v5) (by decide +kernel) (by decide) rfl (fun hc => ?_) (fun hc => ?_)
              · have hG := hG.1 hc
                refine aw_iload_n (k' := 1) (by decide +kernel) rfl ?_
                refine aw_callS (y := yX12_firstOf) (M2 := mX12_firstOf) (as := [vI v5]) (S := []) (d2 := d) (b2 := 0) (b3 := b) cwX12_firstOf mlX12_462 stX12_firstOf (by decide +kernel) rfl (Nat.le_refl _) (Nat.le_of_eq (Nat.zero_add _)) rfl rfl (by simp [oneSlot]) (Nat.le_of_ble_eq_true rfl) (Ct.mono hG ?_)
                rintro o h' (⟨v6, g7, rfl, rfl, hG⟩ | ⟨E, g, rfl, rfl, hG⟩)
                · show AW Γ l mX12_likely (d + 1) b 60 [vR 171, vI v5] [vI v6] (stt g7) K
                  exact aw_iret (by decide +kernel) rfl hG
                · exact hG
              · have hG := hG.2 hc
                refine aw_iconst (n := -1) (by decide +kernel) ?_
                refine aw_goto (off := 7) (tgt := 60) (by decide +kernel) (by decide) ?_
                exact aw_iret (by decide +kernel) rfl hG
            · exact hG
        · exact hG
      · have hG := hG.2 hc
        refine aw_iconst (n := 1) (by decide +kernel) ?_
        refine aw_goto (off := 4) (tgt := 17) (by decide +kernel) (by decide) ?_
        refine aw_iconst (n := 1) (by decide +kernel) ?_
        refine aw_callV (y := yX12_throwsIf) (M2 := mX12_throwsIf) (as := [vI 1, vI 1]) (S := []) (t := 171) (d2 := d) (b2 := 0) (b3 := b) cwX12_throwsIf mlX12_279 imX12_throwsIf seX12_throwsIf (by decide +kernel) rfl (ci := 10) rfl (OB.at (ci := 10) (show shp 171 = (20, 0) by decide +kernel) (by decide)) (Nat.le_refl _) (Nat.le_of_eq (Nat.zero_add _)) rfl rfl (by simp [oneSlot]) (Nat.le_of_ble_eq_true rfl) (c_throwsIf1 ?_)
        show AW Γ l mX12_likely (d + 1) b 21 [vR 171, vU] [vI 1] (stt (upd2 g2 171 0 1)) K
        refine ax_if_eq (off := 5) (tgt := 26) (x' := 1) (by decide +kernel) (by decide) (by decide +kernel) (fun hc => absurd hc (by decide)) (fun hc => ?_)
        refine aw_iconst (n := 0) (by decide +kernel) ?_
        exact aw_iret (by decide +kernel) rfl hG
    · exact hG
  · exact hG

set_option maxHeartbeats 1000000 in
theorem wpX12_partBy {Γ : Cfg} {l : Launch} {d b : Nat} {g : GG} {K : Ou → HP → Prop} {x1 : Int} {x2 : Int} (hF : AW Γ l mX12_partBy (d + 1) b 5 [vR 171, vI x1, vI x2, vI 0, vI 0, vU, vU] [] (stt g) K) : Ct Γ l (d + 1) b yX12_partBy mX12_partBy [vR 171, vI x1, vI x2] (stt g) K := by
  refine Ct.enter (L := [vR 171, vI x1, vI x2, vU, vU, vU, vU]) rfl rfl rfl (by decide +kernel) (by simp [oneSlot]) (Nat.le_of_ble_eq_true rfl) rfl ?_
  refine aw_iconst (n := 0) (by decide +kernel) ?_
  refine aw_istore_n (k' := 3) (by decide +kernel) (by decide) ?_
  show AW Γ l mX12_partBy (d + 1) b 2 [vR 171, vI x1, vI x2, vI 0, vU, vU, vU] [] (stt g) K
  refine aw_iconst (n := 0) (by decide +kernel) ?_
  refine aw_istore (i := 4) (by decide +kernel) (by decide) ?_
  show AW Γ l mX12_partBy (d + 1) b 5 [vR 171, vI x1, vI x2, vI 0, vI 0, vU, vU] [] (stt g) K
  exact hF
set_option maxHeartbeats 1000000 in
theorem wpX12_partBy_5 {Γ : Cfg} {l : Launch} {d b : Nat} {g : GG} {K : Ou → HP → Prop} {x1 : Int} {x2 : Int} {y3 : Int} {y4 : Int} (hF : (10 < wr y4 → K (.inl (vI y3)) (stt g)) ∧ (¬ (10 < wr y4) → AW Γ l mX12_partBy (d + 1) b 18 [vR 171, vI x1, vI x2, vI y3, vI y4, vI 0, vI 0] [] (stt g) K)) : AW Γ l mX12_partBy (d + 1) b 5 [vR 171, vI x1, vI x2, vI y3, vI y4, vU, vU] [] (stt g) K := by
  refine aw_iload (i := 4) (by decide +kernel) rfl ?_
  refine aw_bipush (n := 10) (by decide +kernel) (by decide +kernel) ?_
  refine ax_icmp_gt (off := 68) (tgt := 77) (x' := wr y4) (y' := 10) (by decide +kernel) (by decide) rfl (by decide +kernel) (fun hc => ?_) (fun hc => ?_)
  · have hF := hF.1 hc
    refine aw_iload_n (k' := 3) (by decide +kernel) rfl ?_
    exact aw_iret (by decide +kernel) rfl hF
  · have hF := hF.2 hc
    refine aw_iconst (n := 0) (by decide +kernel) ?_
    refine aw_istore (i := 5) (by decide +kernel) (by decide) ?_
    show AW Γ l mX12_partBy (d + 1) b 15 [vR 171, vI x1, vI x2, vI y3, vI y4, vI 0, vU] [] (stt g) K
    refine aw_iconst (n := 0) (by decide +kernel) ?_
    refine aw_istore (i := 6) (by decide +kernel) (by decide) ?_
    show AW Γ l mX12_partBy (d + 1) b 18 [vR 171, vI x1, vI x2, vI y3, vI y4, vI 0, vI 0] [] (stt g) K
    exact hF
set_option maxHeartbeats 1000000 in
theorem wpX12_partBy_18 {Γ : Cfg} {l : Launch} {d b : Nat} {g : GG} {K : Ou → HP → Prop} {x1 : Int} {x2 : Int} {y3 : Int} {y4 : Int} {y5 : Int} {y6 : Int} (hF : (wr (g 172 0) ≤ wr y6 → AW Γ l mX12_partBy (d + 1) b 5 [vR 171, vI x1, vI x2, vI (iMax y3 y5), vI (y4 + 1), vI y5, vI y6] [] (stt g) K) ∧ (¬ (wr (g 172 0) ≤ wr y6) → (wr (iAnd (iShr x1 y6) 1) = 1 → Ct Γ l d 0 yX12_kindAt mX12_kindAt [vR 171, vI y6, vI x2] (stt g) (bI (fun v1 g1 => (¬ wr v1 = wr y4 → AW Γ l mX12_partBy (d + 1) b 18 [vR 171, vI x1, vI x2, vI y3, vI y4, vI (y5 + 0), vI (y6 + 1)] [] (stt g1) K) ∧ (¬ (¬ wr v1 = wr y4) → AW Γ l mX12_partBy (d + 1) b 18 [vR 171, vI x1, vI x2, vI y3, vI y4, vI (y5 + 1), vI (y6 + 1)] [] (stt g1) K)) K)) ∧ (¬ (wr (iAnd (iShr x1 y6) 1) = 1) → AW Γ l mX12_partBy (d + 1) b 18 [vR 171, vI x1, vI x2, vI y3, vI y4, vI (y5 + 0), vI (y6 + 1)] [] (stt g) K))) : AW Γ l mX12_partBy (d + 1) b 18 [vR 171, vI x1, vI x2, vI y3, vI y4, vI y5, vI y6] [] (stt g) K := by
  refine aw_iload (i := 6) (by decide +kernel) rfl ?_
  refine aw_aload_n (k' := 0) (by decide +kernel) rfl ?_
  refine aw_callV (y := yX12_people) (M2 := mX12_people) (as := []) (S := [vI y6]) (t := 171) (d2 := d) (b2 := 0) (b3 := b) cwX12_people mlX12_87 imX12_people seX12_people (by decide +kernel) rfl (ci := 10) rfl (OB.at (ci := 10) (show shp 171 = (20, 0) by decide +kernel) (by decide)) (Nat.le_refl _) (Nat.le_of_eq (Nat.zero_add _)) rfl rfl (by simp [oneSlot]) (Nat.le_of_ble_eq_true rfl) (c_people ?_)
  show AW Γ l mX12_partBy (d + 1) b 24 [vR 171, vI x1, vI x2, vI y3, vI y4, vI y5, vI y6] [vI (g 172 0), vI y6] (stt g) K
  refine ax_icmp_ge (off := 40) (tgt := 64) (x' := wr y6) (y' := wr (g 172 0)) (by decide +kernel) (by decide) rfl rfl (fun hc => ?_) (fun hc => ?_)
  · have hF := hF.1 hc
    refine aw_iload_n (k' := 3) (by decide +kernel) rfl ?_
    refine aw_iload (i := 5) (by decide +kernel) rfl ?_
    refine aw_mmax (by decide +kernel) mlX12_327 stJ9_max_7cf53 cwM_init cwM_max (by simp [oneSlot]) (Nat.le_of_ble_eq_true rfl) ?_
    refine aw_istore_n (k' := 3) (by decide +kernel) (by decide) ?_
    show AW Γ l mX12_partBy (d + 1) b 71 [vR 171, vI x1, vI x2, vI (iMax y3 y5), vI y4, vI y5, vI y6] [] (stt g) K
    refine aw_iinc (i := 4) (n := 1) (by decide +kernel) rfl (by decide) ?_
    show AW Γ l mX12_partBy (d + 1) b 74 [vR 171, vI x1, vI x2, vI (iMax y3 y5), vI (y4 + 1), vI y5, vI y6] [] (stt g) K
    refine aw_goto (off := -69) (tgt := 5) (by decide +kernel) (by decide) ?_
    exact hF
  · have hF := hF.2 hc
    refine aw_iload (i := 5) (by decide +kernel) rfl ?_
    refine aw_iload_n (k' := 1) (by decide +kernel) rfl ?_
    refine aw_iload (i := 6) (by decide +kernel) rfl ?_
    refine aw_callS (y := yX12_has) (M2 := mX12_has) (as := [vI x1, vI y6]) (S := [vI y5]) (d2 := d) (b2 := 0) (b3 := b) cwX12_has mlX12_444 stX12_has (by decide +kernel) rfl (Nat.le_refl _) (Nat.le_of_eq (Nat.zero_add _)) rfl rfl (by simp [oneSlot]) (Nat.le_of_ble_eq_true rfl) (c_has12 (fun hc => ?_) (fun hc => ?_))
    · have hF := hF.1 hc
      show AW Γ l mX12_partBy (d + 1) b 35 [vR 171, vI x1, vI x2, vI y3, vI y4, vI y5, vI y6] [vI 1, vI y5] (stt g) K
      refine ax_if_eq (off := 19) (tgt := 54) (x' := 1) (by decide +kernel) (by decide) (by decide +kernel) (fun hc => absurd hc (by decide)) (fun hc => ?_)
      refine aw_aload_n (k' := 0) (by decide +kernel) rfl ?_
      refine aw_iload (i := 6) (by decide +kernel) rfl ?_
      refine aw_iload_n (k' := 2) (by decide +kernel) rfl ?_
      refine aw_callV (y := yX12_kindAt) (M2 := mX12_kindAt) (as := [vI y6, vI x2]) (S := [vI y5]) (t := 171) (d2 := d) (b2 := 0) (b3 := b) cwX12_kindAt mlX12_450 imX12_kindAt seX12_kindAt (by decide +kernel) rfl (ci := 10) rfl (OB.at (ci := 10) (show shp 171 = (20, 0) by decide +kernel) (by decide)) (Nat.le_refl _) (Nat.le_of_eq (Nat.zero_add _)) rfl rfl (by simp [oneSlot]) (Nat.le_of_ble_eq_true rfl) (Ct.mono hF ?_)
      rintro o h' (⟨v1, g1, rfl, rfl, hG⟩ | ⟨E, g, rfl, rfl, hG⟩)
      · show AW Γ l mX12_partBy (d + 1) b 45 [vR 171, vI x1, vI x2, vI y3, vI y4, vI y5, vI y6] [vI v1, vI y5] (stt g1) K
        refine aw_iload (i := 4) (by decide +kernel) rfl ?_
        refine ax_icmp_ne (off := 7) (tgt := 54) (x' := wr v1) (y' := wr y4) (by decide +kernel) (by decide) rfl rfl (fun hc => ?_) (fun hc => ?_)
        · have hG := hG.1 hc
          refine aw_iconst (n := 0) (by decide +kernel) ?_
          refine aw_iadd (by decide +kernel) ?_
          refine aw_istore (i := 5) (by decide +kernel) (by decide) ?_
          show AW Γ l mX12_partBy (d + 1) b 58 [vR 171, vI x1, vI x2, vI y3, vI y4, vI (y5 + 0), vI y6] [] (stt g1) K
          refine aw_iinc (i := 6) (n := 1) (by decide +kernel) rfl (by decide) ?_
          show AW Γ l mX12_partBy (d + 1) b 61 [vR 171, vI x1, vI x2, vI y3, vI y4, vI (y5 + 0), vI (y6 + 1)] [] (stt g1) K
          refine aw_goto (off := -43) (tgt := 18) (by decide +kernel) (by decide) ?_
          exact hG
        · have hG := hG.2 hc
          refine aw_iconst (n := 1) (by decide +kernel) ?_
          refine aw_goto (off := 4) (tgt := 55) (by decide +kernel) (by decide) ?_
          refine aw_iadd (by decide +kernel) ?_
          refine aw_istore (i := 5) (by decide +kernel) (by decide) ?_
          show AW Γ l mX12_partBy (d + 1) b 58 [vR 171, vI x1, vI x2, vI y3, vI y4, vI (y5 + 1), vI y6] [] (stt g1) K
          refine aw_iinc (i := 6) (n := 1) (by decide +kernel) rfl (by decide) ?_
          show AW Γ l mX12_partBy (d + 1) b 61 [vR 171, vI x1, vI x2, vI y3, vI y4, vI (y5 + 1), vI (y6 + 1)] [] (stt g1) K
          refine aw_goto (off := -43) (tgt := 18) (by decide +kernel) (by decide) ?_
          exact hG
      · exact hG
    · have hF := hF.2 hc
      show AW Γ l mX12_partBy (d + 1) b 35 [vR 171, vI x1, vI x2, vI y3, vI y4, vI y5, vI y6] [vI 0, vI y5] (stt g) K
      refine ax_if_eq (off := 19) (tgt := 54) (x' := 0) (by decide +kernel) (by decide) (by decide +kernel) (fun hc => ?_) (fun hc => absurd (by decide) hc)
      refine aw_iconst (n := 0) (by decide +kernel) ?_
      refine aw_iadd (by decide +kernel) ?_
      refine aw_istore (i := 5) (by decide +kernel) (by decide) ?_
      show AW Γ l mX12_partBy (d + 1) b 58 [vR 171, vI x1, vI x2, vI y3, vI y4, vI (y5 + 0), vI y6] [] (stt g) K
      refine aw_iinc (i := 6) (n := 1) (by decide +kernel) rfl (by decide) ?_
      show AW Γ l mX12_partBy (d + 1) b 61 [vR 171, vI x1, vI x2, vI y3, vI y4, vI (y5 + 0), vI (y6 + 1)] [] (stt g) K
      refine aw_goto (off := -43) (tgt := 18) (by decide +kernel) (by decide) ?_
      exact hF

set_option maxHeartbeats 1000000 in
theorem wpX12_ask {Γ : Cfg} {l : Launch} {d b : Nat} {g : GG} {K : Ou → HP → Prop}  (hF : Ct Γ l d 0 yX12_uses mX12_uses [vR 171] (stt g) (bV (fun g1 => Ct Γ l d 0 yX12_areTold mX12_areTold [vR 171] (stt g1) (bI (fun v1 g2 => (¬ wr v1 = 0 → Ct Γ l d 0 yX12_thatFit mX12_thatFit [vR 171, vI 1] (stt g2) (bI (fun v2 g3 => AW Γ l mX12_ask (d + 1) b 40 [vR 171, vI v2, vI (-1), vI 1000000, vI 0, vU] [] (stt g3) K) K)) ∧ (¬ (¬ wr v1 = 0) → K (.inl (vI 0)) (stt (upd2 g2 171 0 1)))) K)) K)) : Ct Γ l (d + 1) b yX12_ask mX12_ask [vR 171] (stt g) K := by
  refine Ct.enter (L := [vR 171, vU, vU, vU, vU, vU]) rfl rfl rfl (by decide +kernel) (by simp [oneSlot]) (Nat.le_of_ble_eq_true rfl) rfl ?_
  refine aw_aload_n (k' := 0) (by decide +kernel) rfl ?_
  refine aw_callV (y := yX12_uses) (M2 := mX12_uses) (as := []) (S := []) (t := 171) (d2 := d) (b2 := 0) (b3 := b) cwX12_uses mlX12_268 imX12_uses seX12_uses (by decide +kernel) rfl (ci := 10) rfl (OB.at (ci := 10) (show shp 171 = (20, 0) by decide +kernel) (by decide)) (Nat.le_refl _) (Nat.le_of_eq (Nat.zero_add _)) rfl rfl (by simp [oneSlot]) (Nat.le_of_ble_eq_true rfl) (Ct.mono hF ?_)
  rintro o h' (⟨g1, rfl, rfl, hG⟩ | ⟨E, g, rfl, rfl, hG⟩)
  · show AW Γ l mX12_ask (d + 1) b 4 [vR 171, vU, vU, vU, vU, vU] [] (stt g1) K
    refine aw_aload_n (k' := 0) (by decide +kernel) rfl ?_
    refine aw_aload_n (k' := 0) (by decide +kernel) rfl ?_
    refine aw_callV (y := yX12_areTold) (M2 := mX12_areTold) (as := []) (S := [vR 171]) (t := 171) (d2 := d) (b2 := 0) (b3 := b) cwX12_areTold mlX12_456 imX12_areTold seX12_areTold (by decide +kernel) rfl (ci := 10) rfl (OB.at (ci := 10) (show shp 171 = (20, 0) by decide +kernel) (by decide)) (Nat.le_refl _) (Nat.le_of_eq (Nat.zero_add _)) rfl rfl (by simp [oneSlot]) (Nat.le_of_ble_eq_true rfl) (Ct.mono hG ?_)
    rintro o h' (⟨v1, g2, rfl, rfl, hG⟩ | ⟨E, g, rfl, rfl, hG⟩)
    · show AW Γ l mX12_ask (d + 1) b 9 [vR 171, vU, vU, vU, vU, vU] [vI v1, vR 171] (stt g2) K
      refine ax_if_ne (off := 7) (tgt := 16) (x' := wr v1) (by decide +kernel) (by decide) rfl (fun hc => ?_) (fun hc => ?_)
      · have hG := hG.1 hc
        refine aw_iconst (n := 0) (by decide +kernel) ?_
        refine aw_iconst (n := 1) (by decide +kernel) ?_
        refine aw_callV (y := yX12_throwsIf) (M2 := mX12_throwsIf) (as := [vI 0, vI 1]) (S := []) (t := 171) (d2 := d) (b2 := 0) (b3 := b) cwX12_throwsIf mlX12_279 imX12_throwsIf seX12_throwsIf (by decide +kernel) rfl (ci := 10) rfl (OB.at (ci := 10) (show shp 171 = (20, 0) by decide +kernel) (by decide)) (Nat.le_refl _) (Nat.le_of_eq (Nat.zero_add _)) rfl rfl (by simp [oneSlot]) (Nat.le_of_ble_eq_true rfl) (c_throwsIf0 ?_)
        show AW Γ l mX12_ask (d + 1) b 21 [vR 171, vU, vU, vU, vU, vU] [vI 0] (stt g2) K
        refine ax_if_eq (off := 5) (tgt := 26) (x' := 0) (by decide +kernel) (by decide) (by decide +kernel) (fun hc => ?_) (fun hc => absurd (by decide) hc)
        refine aw_aload_n (k' := 0) (by decide +kernel) rfl ?_
        refine aw_iconst (n := 1) (by decide +kernel) ?_
        refine aw_callV (y := yX12_thatFit) (M2 := mX12_thatFit) (as := [vI 1]) (S := []) (t := 171) (d2 := d) (b2 := 0) (b3 := b) cwX12_thatFit mlX12_459 imX12_thatFit seX12_thatFit (by decide +kernel) rfl (ci := 10) rfl (OB.at (ci := 10) (show shp 171 = (20, 0) by decide +kernel) (by decide)) (Nat.le_refl _) (Nat.le_of_eq (Nat.zero_add _)) rfl rfl (by simp [oneSlot]) (Nat.le_of_ble_eq_true rfl) (Ct.mono hG ?_)
        rintro o h' (⟨v2, g3, rfl, rfl, hG⟩ | ⟨E, g, rfl, rfl, hG⟩)
        · show AW Γ l mX12_ask (d + 1) b 31 [vR 171, vU, vU, vU, vU, vU] [vI v2] (stt g3) K
          refine aw_istore_n (k' := 1) (by decide +kernel) (by decide) ?_
          show AW Γ l mX12_ask (d + 1) b 32 [vR 171, vI v2, vU, vU, vU, vU] [] (stt g3) K
          refine aw_iconst (n := -1) (by decide +kernel) ?_
          refine aw_istore_n (k' := 2) (by decide +kernel) (by decide) ?_
          show AW Γ l mX12_ask (d + 1) b 34 [vR 171, vI v2, vI (-1), vU, vU, vU] [] (stt g3) K
          refine aw_ldc (idx := 137) (z := 1000000) (by decide +kernel) (tm7 115 (by decide +kernel) (by decide +kernel)) ?_
          refine aw_istore_n (k' := 3) (by decide +kernel) (by decide) ?_
          show AW Γ l mX12_ask (d + 1) b 37 [vR 171, vI v2, vI (-1), vI 1000000, vU, vU] [] (stt g3) K
          refine aw_iconst (n := 0) (by decide +kernel) ?_
          refine aw_istore (i := 4) (by decide +kernel) (by decide) ?_
          show AW Γ l mX12_ask (d + 1) b 40 [vR 171, vI v2, vI (-1), vI 1000000, vI 0, vU] [] (stt g3) K
          exact hG
        · exact hG
      · have hG := hG.2 hc
        refine aw_iconst (n := 1) (by decide +kernel) ?_
        refine aw_goto (off := 4) (tgt := 17) (by decide +kernel) (by decide) ?_
        refine aw_iconst (n := 1) (by decide +kernel) ?_
        refine aw_callV (y := yX12_throwsIf) (M2 := mX12_throwsIf) (as := [vI 1, vI 1]) (S := []) (t := 171) (d2 := d) (b2 := 0) (b3 := b) cwX12_throwsIf mlX12_279 imX12_throwsIf seX12_throwsIf (by decide +kernel) rfl (ci := 10) rfl (OB.at (ci := 10) (show shp 171 = (20, 0) by decide +kernel) (by decide)) (Nat.le_refl _) (Nat.le_of_eq (Nat.zero_add _)) rfl rfl (by simp [oneSlot]) (Nat.le_of_ble_eq_true rfl) (c_throwsIf1 ?_)
        show AW Γ l mX12_ask (d + 1) b 21 [vR 171, vU, vU, vU, vU, vU] [vI 1] (stt (upd2 g2 171 0 1)) K
        refine ax_if_eq (off := 5) (tgt := 26) (x' := 1) (by decide +kernel) (by decide) (by decide +kernel) (fun hc => absurd hc (by decide)) (fun hc => ?_)
        refine aw_iconst (n := 0) (by decide +kernel) ?_
        exact aw_iret (by decide +kernel) rfl hG
    · exact hG
  · exact hG
set_option maxHeartbeats 1000000 in
theorem wpX12_ask_40 {Γ : Cfg} {l : Launch} {d b : Nat} {g : GG} {K : Ou → HP → Prop} {y1 : Int} {y2 : Int} {y3 : Int} {y4 : Int} (hF : (12 ≤ wr y4 → K (.inl (vI y2)) (stt g)) ∧ (¬ (12 ≤ wr y4) → (wr (iBC y1) ≤ 1 → K (.inl (vI y2)) (stt g)) ∧ (¬ (wr (iBC y1) ≤ 1) → Ct Γ l d 0 yX12_partBy mX12_partBy [vR 171, vI y1, vI y4] (stt g) (bI (fun v1 g1 => (wr y3 ≤ wr v1 → AW Γ l mX12_ask (d + 1) b 40 [vR 171, vI y1, vI y2, vI (iMin y3 v1), vI (y4 + 1), vI v1] [] (stt g1) K) ∧ (¬ (wr y3 ≤ wr v1) → AW Γ l mX12_ask (d + 1) b 40 [vR 171, vI y1, vI y4, vI (iMin y3 v1), vI (y4 + 1), vI v1] [] (stt g1) K)) K)))) : AW Γ l mX12_ask (d + 1) b 40 [vR 171, vI y1, vI y2, vI y3, vI y4, vU] [] (stt g) K := by
  refine aw_iload (i := 4) (by decide +kernel) rfl ?_
  refine aw_bipush (n := 12) (by decide +kernel) (by decide +kernel) ?_
  refine ax_icmp_ge (off := 46) (tgt := 90) (x' := wr y4) (y' := 12) (by decide +kernel) (by decide) rfl (by decide +kernel) (fun hc => ?_) (fun hc => ?_)
  · have hF := hF.1 hc
    refine aw_iload_n (k' := 2) (by decide +kernel) rfl ?_
    exact aw_iret (by decide +kernel) rfl hF
  · have hF := hF.2 hc
    refine aw_iload_n (k' := 1) (by decide +kernel) rfl ?_
    refine aw_callS (y := yJ6_bitCount_0f7a4) (M2 := mJ6_bitCount_0f7a4) (as := [vI y1]) (S := []) (d2 := d) (b2 := 0) (b3 := b) cwJ6_bitCount_0f7a4 mlX12_315 stJ6_bitCount_0f7a4 (by decide +kernel) rfl (Nat.le_refl _) (Nat.le_of_eq (Nat.zero_add _)) rfl rfl (by simp [oneSlot]) (Nat.le_of_ble_eq_true rfl) (c_bitCount ?_)
    show AW Γ l mX12_ask (d + 1) b 51 [vR 171, vI y1, vI y2, vI y3, vI y4, vU] [vI (iBC y1)] (stt g) K
    refine aw_iconst (n := 1) (by decide +kernel) ?_
    refine ax_icmp_le (off := 38) (tgt := 90) (x' := wr (iBC y1)) (y' := 1) (by decide +kernel) (by decide) rfl (by decide +kernel) (fun hc => ?_) (fun hc => ?_)
    · have hF := hF.1 hc
      refine aw_iload_n (k' := 2) (by decide +kernel) rfl ?_
      exact aw_iret (by decide +kernel) rfl hF
    · have hF := hF.2 hc
      refine aw_aload_n (k' := 0) (by decide +kernel) rfl ?_
      refine aw_iload_n (k' := 1) (by decide +kernel) rfl ?_
      refine aw_iload (i := 4) (by decide +kernel) rfl ?_
      refine aw_callV (y := yX12_partBy) (M2 := mX12_partBy) (as := [vI y1, vI y4]) (S := []) (t := 171) (d2 := d) (b2 := 0) (b3 := b) cwX12_partBy mlX12_465 imX12_partBy seX12_partBy (by decide +kernel) rfl (ci := 10) rfl (OB.at (ci := 10) (show shp 171 = (20, 0) by decide +kernel) (by decide)) (Nat.le_refl _) (Nat.le_of_eq (Nat.zero_add _)) rfl rfl (by simp [oneSlot]) (Nat.le_of_ble_eq_true rfl) (Ct.mono hF ?_)
      rintro o h' (⟨v1, g1, rfl, rfl, hG⟩ | ⟨E, g, rfl, rfl, hG⟩)
      · show AW Γ l mX12_ask (d + 1) b 62 [vR 171, vI y1, vI y2, vI y3, vI y4, vU] [vI v1] (stt g1) K
        refine aw_istore (i := 5) (by decide +kernel) (by decide) ?_
        show AW Γ l mX12_ask (d + 1) b 64 [vR 171, vI y1, vI y2, vI y3, vI y4, vI v1] [] (stt g1) K
        refine aw_iload (i := 5) (by decide +kernel) rfl ?_
        refine aw_iload_n (k' := 3) (by decide +kernel) rfl ?_
        refine ax_icmp_ge (off := 8) (tgt := 75) (x' := wr v1) (y' := wr y3) (by decide +kernel) (by decide) rfl rfl (fun hc => ?_) (fun hc => ?_)
        · have hG := hG.1 hc
          refine aw_iload_n (k' := 2) (by decide +kernel) rfl ?_
          refine aw_istore_n (k' := 2) (by decide +kernel) (by decide) ?_
          show AW Γ l mX12_ask (d + 1) b 77 [vR 171, vI y1, vI y2, vI y3, vI y4, vI v1] [] (stt g1) K
          refine aw_iload_n (k' := 3) (by decide +kernel) rfl ?_
          refine aw_iload (i := 5) (by decide +kernel) rfl ?_
          refine aw_mmin (by decide +kernel) mlX12_285 stJ9_min_7cf53 cwM_init cwM_min (by simp [oneSlot]) (Nat.le_of_ble_eq_true rfl) ?_
          refine aw_istore_n (k' := 3) (by decide +kernel) (by decide) ?_
          show AW Γ l mX12_ask (d + 1) b 84 [vR 171, vI y1, vI y2, vI (iMin y3 v1), vI y4, vI v1] [] (stt g1) K
          refine aw_iinc (i := 4) (n := 1) (by decide +kernel) rfl (by decide) ?_
          show AW Γ l mX12_ask (d + 1) b 87 [vR 171, vI y1, vI y2, vI (iMin y3 v1), vI (y4 + 1), vI v1] [] (stt g1) K
          refine aw_goto (off := -47) (tgt := 40) (by decide +kernel) (by decide) ?_
          exact hG
        · have hG := hG.2 hc
          refine aw_iload (i := 4) (by decide +kernel) rfl ?_
          refine aw_goto (off := 4) (tgt := 76) (by decide +kernel) (by decide) ?_
          refine aw_istore_n (k' := 2) (by decide +kernel) (by decide) ?_
          show AW Γ l mX12_ask (d + 1) b 77 [vR 171, vI y1, vI y4, vI y3, vI y4, vI v1] [] (stt g1) K
          refine aw_iload_n (k' := 3) (by decide +kernel) rfl ?_
          refine aw_iload (i := 5) (by decide +kernel) rfl ?_
          refine aw_mmin (by decide +kernel) mlX12_285 stJ9_min_7cf53 cwM_init cwM_min (by simp [oneSlot]) (Nat.le_of_ble_eq_true rfl) ?_
          refine aw_istore_n (k' := 3) (by decide +kernel) (by decide) ?_
          show AW Γ l mX12_ask (d + 1) b 84 [vR 171, vI y1, vI y4, vI (iMin y3 v1), vI y4, vI v1] [] (stt g1) K
          refine aw_iinc (i := 4) (n := 1) (by decide +kernel) rfl (by decide) ?_
          show AW Γ l mX12_ask (d + 1) b 87 [vR 171, vI y1, vI y4, vI (iMin y3 v1), vI (y4 + 1), vI v1] [] (stt g1) K
          refine aw_goto (off := -47) (tgt := 40) (by decide +kernel) (by decide) ?_
          exact hG
      · exact hG

set_option maxHeartbeats 1000000 in
theorem wpX12_areCoughs {Γ : Cfg} {l : Launch} {d b : Nat} {g : GG} {K : Ou → HP → Prop} {x1 : Int} (hF : (6 < wr (g 171 11) → AW Γ l mX12_areCoughs (d + 1) b 27 [vR 171, vI x1, vI 0, vI 0] [] (stt g) K) ∧ (¬ (6 < wr (g 171 11)) → (0 ≤ wr x1 ∧ wr x1 ≤ 99 → AW Γ l mX12_areCoughs (d + 1) b 27 [vR 171, vI x1, vI 1, vI 0] [] (stt g) K) ∧ (¬ (0 ≤ wr x1 ∧ wr x1 ≤ 99) → AW Γ l mX12_areCoughs (d + 1) b 27 [vR 171, vI x1, vI 0, vI 0] [] (stt g) K))) : Ct Γ l (d + 1) b yX12_areCoughs mX12_areCoughs [vR 171, vI x1] (stt g) K := by
  refine Ct.enter (L := [vR 171, vI x1, vU, vU]) rfl rfl rfl (by decide +kernel) (by simp [oneSlot]) (Nat.le_of_ble_eq_true rfl) rfl ?_
  refine aw_aload_n (k' := 0) (by decide +kernel) rfl ?_
  refine gfX12_102 rfl (by decide +kernel) (OB.at (ci := 10) (show shp 171 = (20, 0) by decide +kernel) (by decide)) ?_
  refine aw_bipush (n := 6) (by decide +kernel) (by decide +kernel) ?_
  refine ax_icmp_gt (off := 17) (tgt := 23) (x' := wr (g 171 11)) (y' := 6) (by decide +kernel) (by decide) rfl (by decide +kernel) (fun hc => ?_) (fun hc => ?_)
  · have hF := hF.1 hc
    refine aw_iconst (n := 0) (by decide +kernel) ?_
    refine aw_istore_n (k' := 2) (by decide +kernel) (by decide) ?_
    show AW Γ l mX12_areCoughs (d + 1) b 25 [vR 171, vI x1, vI 0, vU] [] (stt g) K
    refine aw_iconst (n := 0) (by decide +kernel) ?_
    refine aw_istore_n (k' := 3) (by decide +kernel) (by decide) ?_
    show AW Γ l mX12_areCoughs (d + 1) b 27 [vR 171, vI x1, vI 0, vI 0] [] (stt g) K
    exact hF
  · have hF := hF.2 hc
    refine aw_iload_n (k' := 1) (by decide +kernel) rfl ?_
    refine aw_iconst (n := 0) (by decide +kernel) ?_
    refine aw_bipush (n := 99) (by decide +kernel) (by decide +kernel) ?_
    refine aw_callS (y := yX12_in) (M2 := mX12_in) (as := [vI x1, vI 0, vI 99]) (S := []) (d2 := d) (b2 := 0) (b3 := b) cwX12_in mlX12_91 stX12_in (by decide +kernel) rfl (Nat.le_refl _) (Nat.le_of_eq (Nat.zero_add _)) rfl rfl (by simp [oneSlot]) (Nat.le_of_ble_eq_true rfl) (c_in (x' := wr x1) (y' := 0) (z' := 99) rfl (by decide +kernel) (by decide +kernel) (fun hc => ?_) (fun hc => ?_))
    · have hF := hF.1 hc
      show AW Γ l mX12_areCoughs (d + 1) b 16 [vR 171, vI x1, vU, vU] [vI 1] (stt g) K
      refine ax_if_eq (off := 7) (tgt := 23) (x' := 1) (by decide +kernel) (by decide) (by decide +kernel) (fun hc => absurd hc (by decide)) (fun hc => ?_)
      refine aw_iconst (n := 1) (by decide +kernel) ?_
      refine aw_goto (off := 4) (tgt := 24) (by decide +kernel) (by decide) ?_
      refine aw_istore_n (k' := 2) (by decide +kernel) (by decide) ?_
      show AW Γ l mX12_areCoughs (d + 1) b 25 [vR 171, vI x1, vI 1, vU] [] (stt g) K
      refine aw_iconst (n := 0) (by decide +kernel) ?_
      refine aw_istore_n (k' := 3) (by decide +kernel) (by decide) ?_
      show AW Γ l mX12_areCoughs (d + 1) b 27 [vR 171, vI x1, vI 1, vI 0] [] (stt g) K
      exact hF
    · have hF := hF.2 hc
      show AW Γ l mX12_areCoughs (d + 1) b 16 [vR 171, vI x1, vU, vU] [vI 0] (stt g) K
      refine ax_if_eq (off := 7) (tgt := 23) (x' := 0) (by decide +kernel) (by decide) (by decide +kernel) (fun hc => ?_) (fun hc => absurd (by decide) hc)
      refine aw_iconst (n := 0) (by decide +kernel) ?_
      refine aw_istore_n (k' := 2) (by decide +kernel) (by decide) ?_
      show AW Γ l mX12_areCoughs (d + 1) b 25 [vR 171, vI x1, vI 0, vU] [] (stt g) K
      refine aw_iconst (n := 0) (by decide +kernel) ?_
      refine aw_istore_n (k' := 3) (by decide +kernel) (by decide) ?_
      show AW Γ l mX12_areCoughs (d + 1) b 27 [vR 171, vI x1, vI 0, vI 0] [] (stt g) K
      exact hF
set_option maxHeartbeats 1000000 in
theorem wpX12_areCoughs_27 {Γ : Cfg} {l : Launch} {d b : Nat} {g : GG} {K : Ou → HP → Prop} {x1 : Int} {y2 : Int} {y3 : Int} (hF : (wr (g 171 11) ≤ wr y3 → (wr y2 = 0 ∨ wr y2 = 1) ∧ K (.inl (vI y2)) (stt g)) ∧ (¬ (wr (g 171 11) ≤ wr y3) → (wr y2 = 0 → (wr y2 = 0 ∨ wr y2 = 1) ∧ K (.inl (vI y2)) (stt g)) ∧ (¬ (wr y2 = 0) → (0 ≤ wr y3 ∧ wr y3 < 400) ∧ ((1 ≤ wr (g 177 (wr y3)) ∧ wr (g 177 (wr y3)) ≤ 9 → AW Γ l mX12_areCoughs (d + 1) b 27 [vR 171, vI x1, vI 1, vI (y3 + 1)] [] (stt g) K) ∧ (¬ (1 ≤ wr (g 177 (wr y3)) ∧ wr (g 177 (wr y3)) ≤ 9) → AW Γ l mX12_areCoughs (d + 1) b 27 [vR 171, vI x1, vI 0, vI (y3 + 1)] [] (stt g) K))))) : AW Γ l mX12_areCoughs (d + 1) b 27 [vR 171, vI x1, vI y2, vI y3] [] (stt g) K := by
  refine aw_iload_n (k' := 3) (by decide +kernel) rfl ?_
  refine aw_aload_n (k' := 0) (by decide +kernel) rfl ?_
  refine gfX12_102 rfl (by decide +kernel) (OB.at (ci := 10) (show shp 171 = (20, 0) by decide +kernel) (by decide)) ?_
  refine ax_icmp_ge (off := 26) (tgt := 58) (x' := wr y3) (y' := wr (g 171 11)) (by decide +kernel) (by decide) rfl rfl (fun hc => ?_) (fun hc => ?_)
  · have hF := hF.1 hc
    refine aw_iload_n (k' := 2) (by decide +kernel) rfl ?_
    exact aw_zret (by decide +kernel) rfl (nar_z hF.1) hF.2
  · have hF := hF.2 hc
    refine aw_iload_n (k' := 2) (by decide +kernel) rfl ?_
    refine ax_if_eq (off := 22) (tgt := 58) (x' := wr y2) (by decide +kernel) (by decide) rfl (fun hc => ?_) (fun hc => ?_)
    · have hF := hF.1 hc
      refine aw_iload_n (k' := 2) (by decide +kernel) rfl ?_
      exact aw_zret (by decide +kernel) rfl (nar_z hF.1) hF.2
    · have hF := hF.2 hc
      refine aw_aload_n (k' := 0) (by decide +kernel) rfl ?_
      refine gfX12_29 rfl (by decide +kernel) (OB.at (ci := 10) (show shp 171 = (20, 0) by decide +kernel) (by decide)) ?_
      refine AW.topR (show RC 171 8 = 177 by decide +kernel) ?_
      refine aw_iload_n (k' := 3) (by decide +kernel) rfl ?_
      refine ax_bald (i := wr y3) (by decide +kernel) (isA_lit (show shp 177 = (1, 400) by decide +kernel) (by decide)) rfl hF.1 ?_
      replace hF := hF.2
      refine aw_iconst (n := 1) (by decide +kernel) ?_
      refine aw_bipush (n := 9) (by decide +kernel) (by decide +kernel) ?_
      refine aw_callS (y := yX12_in) (M2 := mX12_in) (as := [vI (g 177 (wr y3)), vI 1, vI 9]) (S := []) (d2 := d) (b2 := 0) (b3 := b) cwX12_in mlX12_91 stX12_in (by decide +kernel) rfl (Nat.le_refl _) (Nat.le_of_eq (Nat.zero_add _)) rfl rfl (by simp [oneSlot]) (Nat.le_of_ble_eq_true rfl) (c_in (x' := wr (g 177 (wr y3))) (y' := 1) (z' := 9) rfl (by decide +kernel) (by decide +kernel) (fun hc => ?_) (fun hc => ?_))
      · have hF := hF.1 hc
        show AW Γ l mX12_areCoughs (d + 1) b 51 [vR 171, vI x1, vI y2, vI y3] [vI 1] (stt g) K
        refine aw_istore_n (k' := 2) (by decide +kernel) (by decide) ?_
        show AW Γ l mX12_areCoughs (d + 1) b 52 [vR 171, vI x1, vI 1, vI y3] [] (stt g) K
        refine aw_iinc (i := 3) (n := 1) (by decide +kernel) rfl (by decide) ?_
        show AW Γ l mX12_areCoughs (d + 1) b 55 [vR 171, vI x1, vI 1, vI (y3 + 1)] [] (stt g) K
        refine aw_goto (off := -28) (tgt := 27) (by decide +kernel) (by decide) ?_
        exact hF
      · have hF := hF.2 hc
        show AW Γ l mX12_areCoughs (d + 1) b 51 [vR 171, vI x1, vI y2, vI y3] [vI 0] (stt g) K
        refine aw_istore_n (k' := 2) (by decide +kernel) (by decide) ?_
        show AW Γ l mX12_areCoughs (d + 1) b 52 [vR 171, vI x1, vI 0, vI y3] [] (stt g) K
        refine aw_iinc (i := 3) (n := 1) (by decide +kernel) rfl (by decide) ?_
        show AW Γ l mX12_areCoughs (d + 1) b 55 [vR 171, vI x1, vI 0, vI (y3 + 1)] [] (stt g) K
        refine aw_goto (off := -28) (tgt := 27) (by decide +kernel) (by decide) ?_
        exact hF

set_option maxHeartbeats 1000000 in
theorem wpX12_laysWins {Γ : Cfg} {l : Launch} {d b : Nat} {g : GG} {K : Ou → HP → Prop}  (hF : AW Γ l mX12_laysWins d b 2 [vR 171, vI 0, vU, vU, vU] [] (stt g) K) : Ct Γ l d b yX12_laysWins mX12_laysWins [vR 171] (stt g) K := by
  refine Ct.enter (L := [vR 171, vU, vU, vU, vU]) rfl rfl rfl (by decide +kernel) (by simp [oneSlot]) (Nat.le_of_ble_eq_true rfl) rfl ?_
  refine aw_iconst (n := 0) (by decide +kernel) ?_
  refine aw_istore_n (k' := 1) (by decide +kernel) (by decide) ?_
  show AW Γ l mX12_laysWins d b 2 [vR 171, vI 0, vU, vU, vU] [] (stt g) K
  exact hF
set_option maxHeartbeats 1000000 in
theorem wpX12_laysWins_2 {Γ : Cfg} {l : Launch} {d b : Nat} {g : GG} {K : Ou → HP → Prop} {y1 : Int} (hF : (100 ≤ wr y1 → K (.inl vU) (stt g)) ∧ (¬ (100 ≤ wr y1) → AW Γ l mX12_laysWins d b 15 [vR 171, vI y1, vI 0, vI 0, vI 0] [] (stt g) K)) : AW Γ l mX12_laysWins d b 2 [vR 171, vI y1, vU, vU, vU] [] (stt g) K := by
  refine aw_iload_n (k' := 1) (by decide +kernel) rfl ?_
  refine aw_bipush (n := 100) (by decide +kernel) (by decide +kernel) ?_
  refine ax_icmp_ge (off := 109) (tgt := 114) (x' := wr y1) (y' := 100) (by decide +kernel) (by decide) rfl (by decide +kernel) (fun hc => ?_) (fun hc => ?_)
  · have hF := hF.1 hc
    exact aw_vret (by decide +kernel) rfl hF
  · have hF := hF.2 hc
    refine aw_iconst (n := 0) (by decide +kernel) ?_
    refine aw_istore_n (k' := 2) (by decide +kernel) (by decide) ?_
    show AW Γ l mX12_laysWins d b 10 [vR 171, vI y1, vI 0, vU, vU] [] (stt g) K
    refine aw_iconst (n := 0) (by decide +kernel) ?_
    refine aw_istore_n (k' := 3) (by decide +kernel) (by decide) ?_
    show AW Γ l mX12_laysWins d b 12 [vR 171, vI y1, vI 0, vI 0, vU] [] (stt g) K
    refine aw_iconst (n := 0) (by decide +kernel) ?_
    refine aw_istore (i := 4) (by decide +kernel) (by decide) ?_
    show AW Γ l mX12_laysWins d b 15 [vR 171, vI y1, vI 0, vI 0, vI 0] [] (stt g) K
    exact hF
set_option maxHeartbeats 1000000 in
theorem wpX12_laysWins_15 {Γ : Cfg} {l : Launch} {d b : Nat} {g : GG} {K : Ou → HP → Prop} {y1 : Int} {y2 : Int} {y3 : Int} {y4 : Int} (hF : (wr (g 171 11) ≤ wr y4 → (¬ wr y3 = 0 → (0 ≤ wr y1 ∧ wr y1 < 100) ∧ (AW Γ l mX12_laysWins d b 2 [vR 171, vI (y1 + 1), vI y2, vI y3, vI y4] [] (stt (upd2 g 188 (wr y1) 1)) K)) ∧ (¬ (¬ wr y3 = 0) → (¬ wr y2 = 0 → (0 ≤ wr y1 ∧ wr y1 < 100) ∧ (AW Γ l mX12_laysWins d b 2 [vR 171, vI (y1 + 1), vI y2, vI y3, vI y4] [] (stt (upd2 g 188 (wr y1) 0)) K)) ∧ (¬ (¬ wr y2 = 0) → (0 ≤ wr y1 ∧ wr y1 < 100) ∧ (AW Γ l mX12_laysWins d b 2 [vR 171, vI (y1 + 1), vI y2, vI y3, vI y4] [] (stt (upd2 g 188 (wr y1) 1)) K)))) ∧ (¬ (wr (g 171 11) ≤ wr y4) → (¬ wr y2 = 0 → (¬ wr y3 = 0 → AW Γ l mX12_laysWins d b 15 [vR 171, vI y1, vI 1, vI 1, vI (y4 + 1)] [] (stt g) K) ∧ (¬ (¬ wr y3 = 0) → (0 ≤ wr y4 ∧ wr y4 < 400) ∧ ((wr y1 < wr (g 177 (wr y4)) → AW Γ l mX12_laysWins d b 15 [vR 171, vI y1, vI 1, vI 0, vI (y4 + 1)] [] (stt g) K) ∧ (¬ (wr y1 < wr (g 177 (wr y4))) → (0 ≤ wr y4 ∧ wr y4 < 400) ∧ ((0 ≤ wr (y1 - (g 177 (wr y4))) ∧ wr (y1 - (g 177 (wr y4))) < 100) ∧ ((¬ wr (g 188 (wr (y1 - (g 177 (wr y4))))) = 0 → AW Γ l mX12_laysWins d b 15 [vR 171, vI y1, vI 1, vI 0, vI (y4 + 1)] [] (stt g) K) ∧ (¬ (¬ wr (g 188 (wr (y1 - (g 177 (wr y4))))) = 0) → AW Γ l mX12_laysWins d b 15 [vR 171, vI y1, vI 1, vI 1, vI (y4 + 1)] [] (stt g) K))))))) ∧ (¬ (¬ wr y2 = 0) → (0 ≤ wr y4 ∧ wr y4 < 400) ∧ ((wr y1 < wr (g 177 (wr y4)) → (¬ wr y3 = 0 → AW Γ l mX12_laysWins d b 15 [vR 171, vI y1, vI 0, vI 1, vI (y4 + 1)] [] (stt g) K) ∧ (¬ (¬ wr y3 = 0) → (0 ≤ wr y4 ∧ wr y4 < 400) ∧ ((wr y1 < wr (g 177 (wr y4)) → AW Γ l mX12_laysWins d b 15 [vR 171, vI y1, vI 0, vI 0, vI (y4 + 1)] [] (stt g) K) ∧ (¬ (wr y1 < wr (g 177 (wr y4))) → (0 ≤ wr y4 ∧ wr y4 < 400) ∧ ((0 ≤ wr (y1 - (g 177 (wr y4))) ∧ wr (y1 - (g 177 (wr y4))) < 100) ∧ ((¬ wr (g 188 (wr (y1 - (g 177 (wr y4))))) = 0 → AW Γ l mX12_laysWins d b 15 [vR 171, vI y1, vI 0, vI 0, vI (y4 + 1)] [] (stt g) K) ∧ (¬ (¬ wr (g 188 (wr (y1 - (g 177 (wr y4))))) = 0) → AW Γ l mX12_laysWins d b 15 [vR 171, vI y1, vI 0, vI 1, vI (y4 + 1)] [] (stt g) K))))))) ∧ (¬ (wr y1 < wr (g 177 (wr y4))) → (¬ wr y3 = 0 → AW Γ l mX12_laysWins d b 15 [vR 171, vI y1, vI 1, vI 1, vI (y4 + 1)] [] (stt g) K) ∧ (¬ (¬ wr y3 = 0) → (0 ≤ wr y4 ∧ wr y4 < 400) ∧ ((wr y1 < wr (g 177 (wr y4)) → AW Γ l mX12_laysWins d b 15 [vR 171, vI y1, vI 1, vI 0, vI (y4 + 1)] [] (stt g) K) ∧ (¬ (wr y1 < wr (g 177 (wr y4))) → (0 ≤ wr y4 ∧ wr y4 < 400) ∧ ((0 ≤ wr (y1 - (g 177 (wr y4))) ∧ wr (y1 - (g 177 (wr y4))) < 100) ∧ ((¬ wr (g 188 (wr (y1 - (g 177 (wr y4))))) = 0 → AW Γ l mX12_laysWins d b 15 [vR 171, vI y1, vI 1, vI 0, vI (y4 + 1)] [] (stt g) K) ∧ (¬ (¬ wr (g 188 (wr (y1 - (g 177 (wr y4))))) = 0) → AW Γ l mX12_laysWins d b 15 [vR 171, vI y1, vI 1, vI 1, vI (y4 + 1)] [] (stt g) K))))))))))) : AW Γ l mX12_laysWins d b 15 [vR 171, vI y1, vI y2, vI y3, vI y4] [] (stt g) K := by
  refine aw_iload (i := 4) (by decide +kernel) rfl ?_
  refine aw_aload_n (k' := 0) (by decide +kernel) rfl ?_
  refine gfX12_102 rfl (by decide +kernel) (OB.at (ci := 10) (show shp 171 = (20, 0) by decide +kernel) (by decide)) ?_
  refine ax_icmp_ge (off := 68) (tgt := 89) (x' := wr y4) (y' := wr (g 171 11)) (by decide +kernel) (by decide) rfl rfl (fun hc => ?_) (fun hc => ?_)
  · have hF := hF.1 hc
    refine aw_aload_n (k' := 0) (by decide +kernel) rfl ?_
    refine gfX12_66 rfl (by decide +kernel) (OB.at (ci := 10) (show shp 171 = (20, 0) by decide +kernel) (by decide)) ?_
    refine AW.topR (show RC 171 32 = 188 by decide +kernel) ?_
    refine aw_iload_n (k' := 1) (by decide +kernel) rfl ?_
    refine aw_iload_n (k' := 3) (by decide +kernel) rfl ?_
    refine ax_if_ne (off := 7) (tgt := 102) (x' := wr y3) (by decide +kernel) (by decide) rfl (fun hc => ?_) (fun hc => ?_)
    · have hF := hF.1 hc
      refine aw_iconst (n := 1) (by decide +kernel) ?_
      refine aw_goto (off := 4) (tgt := 107) (by decide +kernel) (by decide) ?_
      refine ax_zast (i := wr y1) (by decide +kernel) (isA_lit (show shp 188 = (2, 100) by decide +kernel) (by decide)) rfl hF.1 (Or.inr (by decide +kernel)) ?_
      show AW Γ l mX12_laysWins d b 108 [vR 171, vI y1, vI y2, vI y3, vI y4] [] (stt (upd2 g 188 (wr y1) 1)) K
      replace hF := hF.2
      refine aw_iinc (i := 1) (n := 1) (by decide +kernel) rfl (by decide) ?_
      show AW Γ l mX12_laysWins d b 111 [vR 171, vI (y1 + 1), vI y2, vI y3, vI y4] [] (stt (upd2 g 188 (wr y1) 1)) K
      refine aw_goto (off := -109) (tgt := 2) (by decide +kernel) (by decide) ?_
      exact hF
    · have hF := hF.2 hc
      refine aw_iload_n (k' := 2) (by decide +kernel) rfl ?_
      refine ax_if_ne (off := 7) (tgt := 106) (x' := wr y2) (by decide +kernel) (by decide) rfl (fun hc => ?_) (fun hc => ?_)
      · have hF := hF.1 hc
        refine aw_iconst (n := 0) (by decide +kernel) ?_
        refine ax_zast (i := wr y1) (by decide +kernel) (isA_lit (show shp 188 = (2, 100) by decide +kernel) (by decide)) rfl hF.1 (Or.inl (by decide +kernel)) ?_
        show AW Γ l mX12_laysWins d b 108 [vR 171, vI y1, vI y2, vI y3, vI y4] [] (stt (upd2 g 188 (wr y1) 0)) K
        replace hF := hF.2
        refine aw_iinc (i := 1) (n := 1) (by decide +kernel) rfl (by decide) ?_
        show AW Γ l mX12_laysWins d b 111 [vR 171, vI (y1 + 1), vI y2, vI y3, vI y4] [] (stt (upd2 g 188 (wr y1) 0)) K
        refine aw_goto (off := -109) (tgt := 2) (by decide +kernel) (by decide) ?_
        exact hF
      · have hF := hF.2 hc
        refine aw_iconst (n := 1) (by decide +kernel) ?_
        refine aw_goto (off := 4) (tgt := 107) (by decide +kernel) (by decide) ?_
        refine ax_zast (i := wr y1) (by decide +kernel) (isA_lit (show shp 188 = (2, 100) by decide +kernel) (by decide)) rfl hF.1 (Or.inr (by decide +kernel)) ?_
        show AW Γ l mX12_laysWins d b 108 [vR 171, vI y1, vI y2, vI y3, vI y4] [] (stt (upd2 g 188 (wr y1) 1)) K
        replace hF := hF.2
        refine aw_iinc (i := 1) (n := 1) (by decide +kernel) rfl (by decide) ?_
        show AW Γ l mX12_laysWins d b 111 [vR 171, vI (y1 + 1), vI y2, vI y3, vI y4] [] (stt (upd2 g 188 (wr y1) 1)) K
        refine aw_goto (off := -109) (tgt := 2) (by decide +kernel) (by decide) ?_
        exact hF
  · have hF := hF.2 hc
    refine aw_iload_n (k' := 2) (by decide +kernel) rfl ?_
    refine ax_if_ne (off := 14) (tgt := 39) (x' := wr y2) (by decide +kernel) (by decide) rfl (fun hc => ?_) (fun hc => ?_)
    · have hF := hF.1 hc
      refine aw_iconst (n := 1) (by decide +kernel) ?_
      refine aw_goto (off := 4) (tgt := 44) (by decide +kernel) (by decide) ?_
      refine aw_istore_n (k' := 2) (by decide +kernel) (by decide) ?_
      show AW Γ l mX12_laysWins d b 45 [vR 171, vI y1, vI 1, vI y3, vI y4] [] (stt g) K
      refine aw_iload_n (k' := 3) (by decide +kernel) rfl ?_
      refine ax_if_ne (off := 31) (tgt := 77) (x' := wr y3) (by decide +kernel) (by decide) rfl (fun hc => ?_) (fun hc => ?_)
      · have hF := hF.1 hc
        refine aw_iconst (n := 1) (by decide +kernel) ?_
        refine aw_goto (off := 4) (tgt := 82) (by decide +kernel) (by decide) ?_
        refine aw_istore_n (k' := 3) (by decide +kernel) (by decide) ?_
        show AW Γ l mX12_laysWins d b 83 [vR 171, vI y1, vI 1, vI 1, vI y4] [] (stt g) K
        refine aw_iinc (i := 4) (n := 1) (by decide +kernel) rfl (by decide) ?_
        show AW Γ l mX12_laysWins d b 86 [vR 171, vI y1, vI 1, vI 1, vI (y4 + 1)] [] (stt g) K
        refine aw_goto (off := -71) (tgt := 15) (by decide +kernel) (by decide) ?_
        exact hF
      · have hF := hF.2 hc
        refine aw_aload_n (k' := 0) (by decide +kernel) rfl ?_
        refine gfX12_29 rfl (by decide +kernel) (OB.at (ci := 10) (show shp 171 = (20, 0) by decide +kernel) (by decide)) ?_
        refine AW.topR (show RC 171 8 = 177 by decide +kernel) ?_
        refine aw_iload (i := 4) (by decide +kernel) rfl ?_
        refine ax_bald (i := wr y4) (by decide +kernel) (isA_lit (show shp 177 = (1, 400) by decide +kernel) (by decide)) rfl hF.1 ?_
        replace hF := hF.2
        refine aw_iload_n (k' := 1) (by decide +kernel) rfl ?_
        refine ax_icmp_gt (off := 24) (tgt := 81) (x' := wr (g 177 (wr y4))) (y' := wr y1) (by decide +kernel) (by decide) rfl rfl (fun hc => ?_) (fun hc => ?_)
        · have hF := hF.1 hc
          refine aw_iconst (n := 0) (by decide +kernel) ?_
          refine aw_istore_n (k' := 3) (by decide +kernel) (by decide) ?_
          show AW Γ l mX12_laysWins d b 83 [vR 171, vI y1, vI 1, vI 0, vI y4] [] (stt g) K
          refine aw_iinc (i := 4) (n := 1) (by decide +kernel) rfl (by decide) ?_
          show AW Γ l mX12_laysWins d b 86 [vR 171, vI y1, vI 1, vI 0, vI (y4 + 1)] [] (stt g) K
          refine aw_goto (off := -71) (tgt := 15) (by decide +kernel) (by decide) ?_
          exact hF
        · have hF := hF.2 hc
          refine aw_aload_n (k' := 0) (by decide +kernel) rfl ?_
          refine gfX12_66 rfl (by decide +kernel) (OB.at (ci := 10) (show shp 171 = (20, 0) by decide +kernel) (by decide)) ?_
          refine AW.topR (show RC 171 32 = 188 by decide +kernel) ?_
          refine aw_iload_n (k' := 1) (by decide +kernel) rfl ?_
          refine aw_aload_n (k' := 0) (by decide +kernel) rfl ?_
          refine gfX12_29 rfl (by decide +kernel) (OB.at (ci := 10) (show shp 171 = (20, 0) by decide +kernel) (by decide)) ?_
          refine AW.topR (show RC 171 8 = 177 by decide +kernel) ?_
          refine aw_iload (i := 4) (by decide +kernel) rfl ?_
          refine ax_bald (i := wr y4) (by decide +kernel) (isA_lit (show shp 177 = (1, 400) by decide +kernel) (by decide)) rfl hF.1 ?_
          replace hF := hF.2
          refine aw_isub (by decide +kernel) ?_
          refine ax_zald (i := wr (y1 - (g 177 (wr y4)))) (by decide +kernel) (isA_lit (show shp 188 = (2, 100) by decide +kernel) (by decide)) rfl hF.1 ?_
          replace hF := hF.2
          refine ax_if_ne (off := 7) (tgt := 81) (x' := wr (g 188 (wr (y1 - (g 177 (wr y4)))))) (by decide +kernel) (by decide) rfl (fun hc => ?_) (fun hc => ?_)
          · have hF := hF.1 hc
            refine aw_iconst (n := 0) (by decide +kernel) ?_
            refine aw_istore_n (k' := 3) (by decide +kernel) (by decide) ?_
            show AW Γ l mX12_laysWins d b 83 [vR 171, vI y1, vI 1, vI 0, vI y4] [] (stt g) K
            refine aw_iinc (i := 4) (n := 1) (by decide +kernel) rfl (by decide) ?_
            show AW Γ l mX12_laysWins d b 86 [vR 171, vI y1, vI 1, vI 0, vI (y4 + 1)] [] (stt g) K
            refine aw_goto (off := -71) (tgt := 15) (by decide +kernel) (by decide) ?_
            exact hF
          · have hF := hF.2 hc
            refine aw_iconst (n := 1) (by decide +kernel) ?_
            refine aw_goto (off := 4) (tgt := 82) (by decide +kernel) (by decide) ?_
            refine aw_istore_n (k' := 3) (by decide +kernel) (by decide) ?_
            show AW Γ l mX12_laysWins d b 83 [vR 171, vI y1, vI 1, vI 1, vI y4] [] (stt g) K
            refine aw_iinc (i := 4) (n := 1) (by decide +kernel) rfl (by decide) ?_
            show AW Γ l mX12_laysWins d b 86 [vR 171, vI y1, vI 1, vI 1, vI (y4 + 1)] [] (stt g) K
            refine aw_goto (off := -71) (tgt := 15) (by decide +kernel) (by decide) ?_
            exact hF
    · have hF := hF.2 hc
      refine aw_aload_n (k' := 0) (by decide +kernel) rfl ?_
      refine gfX12_29 rfl (by decide +kernel) (OB.at (ci := 10) (show shp 171 = (20, 0) by decide +kernel) (by decide)) ?_
      refine AW.topR (show RC 171 8 = 177 by decide +kernel) ?_
      refine aw_iload (i := 4) (by decide +kernel) rfl ?_
      refine ax_bald (i := wr y4) (by decide +kernel) (isA_lit (show shp 177 = (1, 400) by decide +kernel) (by decide)) rfl hF.1 ?_
      replace hF := hF.2
      refine aw_iload_n (k' := 1) (by decide +kernel) rfl ?_
      refine ax_icmp_gt (off := 7) (tgt := 43) (x' := wr (g 177 (wr y4))) (y' := wr y1) (by decide +kernel) (by decide) rfl rfl (fun hc => ?_) (fun hc => ?_)
      · have hF := hF.1 hc
        refine aw_iconst (n := 0) (by decide +kernel) ?_
        refine aw_istore_n (k' := 2) (by decide +kernel) (by decide) ?_
        show AW Γ l mX12_laysWins d b 45 [vR 171, vI y1, vI 0, vI y3, vI y4] [] (stt g) K
        refine aw_iload_n (k' := 3) (by decide +kernel) rfl ?_
        refine ax_if_ne (off := 31) (tgt := 77) (x' := wr y3) (by decide +kernel) (by decide) rfl (fun hc => ?_) (fun hc => ?_)
        · have hF := hF.1 hc
          refine aw_iconst (n := 1) (by decide +kernel) ?_
          refine aw_goto (off := 4) (tgt := 82) (by decide +kernel) (by decide) ?_
          refine aw_istore_n (k' := 3) (by decide +kernel) (by decide) ?_
          show AW Γ l mX12_laysWins d b 83 [vR 171, vI y1, vI 0, vI 1, vI y4] [] (stt g) K
          refine aw_iinc (i := 4) (n := 1) (by decide +kernel) rfl (by decide) ?_
          show AW Γ l mX12_laysWins d b 86 [vR 171, vI y1, vI 0, vI 1, vI (y4 + 1)] [] (stt g) K
          refine aw_goto (off := -71) (tgt := 15) (by decide +kernel) (by decide) ?_
          exact hF
        · have hF := hF.2 hc
          refine aw_aload_n (k' := 0) (by decide +kernel) rfl ?_
          refine gfX12_29 rfl (by decide +kernel) (OB.at (ci := 10) (show shp 171 = (20, 0) by decide +kernel) (by decide)) ?_
          refine AW.topR (show RC 171 8 = 177 by decide +kernel) ?_
          refine aw_iload (i := 4) (by decide +kernel) rfl ?_
          refine ax_bald (i := wr y4) (by decide +kernel) (isA_lit (show shp 177 = (1, 400) by decide +kernel) (by decide)) rfl hF.1 ?_
          replace hF := hF.2
          refine aw_iload_n (k' := 1) (by decide +kernel) rfl ?_
          refine ax_icmp_gt (off := 24) (tgt := 81) (x' := wr (g 177 (wr y4))) (y' := wr y1) (by decide +kernel) (by decide) rfl rfl (fun hc => ?_) (fun hc => ?_)
          · have hF := hF.1 hc
            refine aw_iconst (n := 0) (by decide +kernel) ?_
            refine aw_istore_n (k' := 3) (by decide +kernel) (by decide) ?_
            show AW Γ l mX12_laysWins d b 83 [vR 171, vI y1, vI 0, vI 0, vI y4] [] (stt g) K
            refine aw_iinc (i := 4) (n := 1) (by decide +kernel) rfl (by decide) ?_
            show AW Γ l mX12_laysWins d b 86 [vR 171, vI y1, vI 0, vI 0, vI (y4 + 1)] [] (stt g) K
            refine aw_goto (off := -71) (tgt := 15) (by decide +kernel) (by decide) ?_
            exact hF
          · have hF := hF.2 hc
            refine aw_aload_n (k' := 0) (by decide +kernel) rfl ?_
            refine gfX12_66 rfl (by decide +kernel) (OB.at (ci := 10) (show shp 171 = (20, 0) by decide +kernel) (by decide)) ?_
            refine AW.topR (show RC 171 32 = 188 by decide +kernel) ?_
            refine aw_iload_n (k' := 1) (by decide +kernel) rfl ?_
            refine aw_aload_n (k' := 0) (by decide +kernel) rfl ?_
            refine gfX12_29 rfl (by decide +kernel) (OB.at (ci := 10) (show shp 171 = (20, 0) by decide +kernel) (by decide)) ?_
            refine AW.topR (show RC 171 8 = 177 by decide +kernel) ?_
            refine aw_iload (i := 4) (by decide +kernel) rfl ?_
            refine ax_bald (i := wr y4) (by decide +kernel) (isA_lit (show shp 177 = (1, 400) by decide +kernel) (by decide)) rfl hF.1 ?_
            replace hF := hF.2
            refine aw_isub (by decide +kernel) ?_
            refine ax_zald (i := wr (y1 - (g 177 (wr y4)))) (by decide +kernel) (isA_lit (show shp 188 = (2, 100) by decide +kernel) (by decide)) rfl hF.1 ?_
            replace hF := hF.2
            refine ax_if_ne (off := 7) (tgt := 81) (x' := wr (g 188 (wr (y1 - (g 177 (wr y4)))))) (by decide +kernel) (by decide) rfl (fun hc => ?_) (fun hc => ?_)
            · have hF := hF.1 hc
              refine aw_iconst (n := 0) (by decide +kernel) ?_
              refine aw_istore_n (k' := 3) (by decide +kernel) (by decide) ?_
              show AW Γ l mX12_laysWins d b 83 [vR 171, vI y1, vI 0, vI 0, vI y4] [] (stt g) K
              refine aw_iinc (i := 4) (n := 1) (by decide +kernel) rfl (by decide) ?_
              show AW Γ l mX12_laysWins d b 86 [vR 171, vI y1, vI 0, vI 0, vI (y4 + 1)] [] (stt g) K
              refine aw_goto (off := -71) (tgt := 15) (by decide +kernel) (by decide) ?_
              exact hF
            · have hF := hF.2 hc
              refine aw_iconst (n := 1) (by decide +kernel) ?_
              refine aw_goto (off := 4) (tgt := 82) (by decide +kernel) (by decide) ?_
              refine aw_istore_n (k' := 3) (by decide +kernel) (by decide) ?_
              show AW Γ l mX12_laysWins d b 83 [vR 171, vI y1, vI 0, vI 1, vI y4] [] (stt g) K
              refine aw_iinc (i := 4) (n := 1) (by decide +kernel) rfl (by decide) ?_
              show AW Γ l mX12_laysWins d b 86 [vR 171, vI y1, vI 0, vI 1, vI (y4 + 1)] [] (stt g) K
              refine aw_goto (off := -71) (tgt := 15) (by decide +kernel) (by decide) ?_
              exact hF
      · have hF := hF.2 hc
        refine aw_iconst (n := 1) (by decide +kernel) ?_
        refine aw_goto (off := 4) (tgt := 44) (by decide +kernel) (by decide) ?_
        refine aw_istore_n (k' := 2) (by decide +kernel) (by decide) ?_
        show AW Γ l mX12_laysWins d b 45 [vR 171, vI y1, vI 1, vI y3, vI y4] [] (stt g) K
        refine aw_iload_n (k' := 3) (by decide +kernel) rfl ?_
        refine ax_if_ne (off := 31) (tgt := 77) (x' := wr y3) (by decide +kernel) (by decide) rfl (fun hc => ?_) (fun hc => ?_)
        · have hF := hF.1 hc
          refine aw_iconst (n := 1) (by decide +kernel) ?_
          refine aw_goto (off := 4) (tgt := 82) (by decide +kernel) (by decide) ?_
          refine aw_istore_n (k' := 3) (by decide +kernel) (by decide) ?_
          show AW Γ l mX12_laysWins d b 83 [vR 171, vI y1, vI 1, vI 1, vI y4] [] (stt g) K
          refine aw_iinc (i := 4) (n := 1) (by decide +kernel) rfl (by decide) ?_
          show AW Γ l mX12_laysWins d b 86 [vR 171, vI y1, vI 1, vI 1, vI (y4 + 1)] [] (stt g) K
          refine aw_goto (off := -71) (tgt := 15) (by decide +kernel) (by decide) ?_
          exact hF
        · have hF := hF.2 hc
          refine aw_aload_n (k' := 0) (by decide +kernel) rfl ?_
          refine gfX12_29 rfl (by decide +kernel) (OB.at (ci := 10) (show shp 171 = (20, 0) by decide +kernel) (by decide)) ?_
          refine AW.topR (show RC 171 8 = 177 by decide +kernel) ?_
          refine aw_iload (i := 4) (by decide +kernel) rfl ?_
          refine ax_bald (i := wr y4) (by decide +kernel) (isA_lit (show shp 177 = (1, 400) by decide +kernel) (by decide)) rfl hF.1 ?_
          replace hF := hF.2
          refine aw_iload_n (k' := 1) (by decide +kernel) rfl ?_
          refine ax_icmp_gt (off := 24) (tgt := 81) (x' := wr (g 177 (wr y4))) (y' := wr y1) (by decide +kernel) (by decide) rfl rfl (fun hc => ?_) (fun hc => ?_)
          · have hF := hF.1 hc
            refine aw_iconst (n := 0) (by decide +kernel) ?_
            refine aw_istore_n (k' := 3) (by decide +kernel) (by decide) ?_
            show AW Γ l mX12_laysWins d b 83 [vR 171, vI y1, vI 1, vI 0, vI y4] [] (stt g) K
            refine aw_iinc (i := 4) (n := 1) (by decide +kernel) rfl (by decide) ?_
            show AW Γ l mX12_laysWins d b 86 [vR 171, vI y1, vI 1, vI 0, vI (y4 + 1)] [] (stt g) K
            refine aw_goto (off := -71) (tgt := 15) (by decide +kernel) (by decide) ?_
            exact hF
          · have hF := hF.2 hc
            refine aw_aload_n (k' := 0) (by decide +kernel) rfl ?_
            refine gfX12_66 rfl (by decide +kernel) (OB.at (ci := 10) (show shp 171 = (20, 0) by decide +kernel) (by decide)) ?_
            refine AW.topR (show RC 171 32 = 188 by decide +kernel) ?_
            refine aw_iload_n (k' := 1) (by decide +kernel) rfl ?_
            refine aw_aload_n (k' := 0) (by decide +kernel) rfl ?_
            refine gfX12_29 rfl (by decide +kernel) (OB.at (ci := 10) (show shp 171 = (20, 0) by decide +kernel) (by decide)) ?_
            refine AW.topR (show RC 171 8 = 177 by decide +kernel) ?_
            refine aw_iload (i := 4) (by decide +kernel) rfl ?_
            refine ax_bald (i := wr y4) (by decide +kernel) (isA_lit (show shp 177 = (1, 400) by decide +kernel) (by decide)) rfl hF.1 ?_
            replace hF := hF.2
            refine aw_isub (by decide +kernel) ?_
            refine ax_zald (i := wr (y1 - (g 177 (wr y4)))) (by decide +kernel) (isA_lit (show shp 188 = (2, 100) by decide +kernel) (by decide)) rfl hF.1 ?_
            replace hF := hF.2
            refine ax_if_ne (off := 7) (tgt := 81) (x' := wr (g 188 (wr (y1 - (g 177 (wr y4)))))) (by decide +kernel) (by decide) rfl (fun hc => ?_) (fun hc => ?_)
            · have hF := hF.1 hc
              refine aw_iconst (n := 0) (by decide +kernel) ?_
              refine aw_istore_n (k' := 3) (by decide +kernel) (by decide) ?_
              show AW Γ l mX12_laysWins d b 83 [vR 171, vI y1, vI 1, vI 0, vI y4] [] (stt g) K
              refine aw_iinc (i := 4) (n := 1) (by decide +kernel) rfl (by decide) ?_
              show AW Γ l mX12_laysWins d b 86 [vR 171, vI y1, vI 1, vI 0, vI (y4 + 1)] [] (stt g) K
              refine aw_goto (off := -71) (tgt := 15) (by decide +kernel) (by decide) ?_
              exact hF
            · have hF := hF.2 hc
              refine aw_iconst (n := 1) (by decide +kernel) ?_
              refine aw_goto (off := 4) (tgt := 82) (by decide +kernel) (by decide) ?_
              refine aw_istore_n (k' := 3) (by decide +kernel) (by decide) ?_
              show AW Γ l mX12_laysWins d b 83 [vR 171, vI y1, vI 1, vI 1, vI y4] [] (stt g) K
              refine aw_iinc (i := 4) (n := 1) (by decide +kernel) rfl (by decide) ?_
              show AW Γ l mX12_laysWins d b 86 [vR 171, vI y1, vI 1, vI 1, vI (y4 + 1)] [] (stt g) K
              refine aw_goto (off := -71) (tgt := 15) (by decide +kernel) (by decide) ?_
              exact hF

set_option maxHeartbeats 1000000 in
theorem wpX12_coughs {Γ : Cfg} {l : Launch} {d b : Nat} {g : GG} {K : Ou → HP → Prop} {x1 : Int} (hF : Ct Γ l d 0 yX12_uses mX12_uses [vR 171] (stt g) (bV (fun g1 => Ct Γ l d 0 yX12_areCoughs mX12_areCoughs [vR 171, vI x1] (stt g1) (bI (fun v1 g2 => (¬ wr v1 = 0 → Ct Γ l d 0 yX12_laysWins mX12_laysWins [vR 171] (stt g2) (bV (fun g3 => (0 ≤ wr x1 ∧ wr x1 < 100) ∧ ((wr (g3 188 (wr x1)) = 0 ∨ wr (g3 188 (wr x1)) = 1) ∧ K (.inl (vI (g3 188 (wr x1)))) (stt g3))) K)) ∧ (¬ (¬ wr v1 = 0) → K (.inl (vI 0)) (stt (upd2 g2 171 0 1)))) K)) K)) : Ct Γ l (d + 1) b yX12_coughs mX12_coughs [vR 171, vI x1] (stt g) K := by
  refine Ct.enter (L := [vR 171, vI x1]) rfl rfl rfl (by decide +kernel) (by simp [oneSlot]) (Nat.le_of_ble_eq_true rfl) rfl ?_
  refine aw_aload_n (k' := 0) (by decide +kernel) rfl ?_
  refine aw_callV (y := yX12_uses) (M2 := mX12_uses) (as := []) (S := []) (t := 171) (d2 := d) (b2 := 0) (b3 := b) cwX12_uses mlX12_268 imX12_uses seX12_uses (by decide +kernel) rfl (ci := 10) rfl (OB.at (ci := 10) (show shp 171 = (20, 0) by decide +kernel) (by decide)) (Nat.le_refl _) (Nat.le_of_eq (Nat.zero_add _)) rfl rfl (by simp [oneSlot]) (Nat.le_of_ble_eq_true rfl) (Ct.mono hF ?_)
  rintro o h' (⟨g1, rfl, rfl, hG⟩ | ⟨E, g, rfl, rfl, hG⟩)
  · show AW Γ l mX12_coughs (d + 1) b 4 [vR 171, vI x1] [] (stt g1) K
    refine aw_aload_n (k' := 0) (by decide +kernel) rfl ?_
    refine aw_aload_n (k' := 0) (by decide +kernel) rfl ?_
    refine aw_iload_n (k' := 1) (by decide +kernel) rfl ?_
    refine aw_callV (y := yX12_areCoughs) (M2 := mX12_areCoughs) (as := [vI x1]) (S := [vR 171]) (t := 171) (d2 := d) (b2 := 0) (b3 := b) cwX12_areCoughs mlX12_468 imX12_areCoughs seX12_areCoughs (by decide +kernel) rfl (ci := 10) rfl (OB.at (ci := 10) (show shp 171 = (20, 0) by decide +kernel) (by decide)) (Nat.le_refl _) (Nat.le_of_eq (Nat.zero_add _)) rfl rfl (by simp [oneSlot]) (Nat.le_of_ble_eq_true rfl) (Ct.mono hG ?_)
    rintro o h' (⟨v1, g2, rfl, rfl, hG⟩ | ⟨E, g, rfl, rfl, hG⟩)
    · show AW Γ l mX12_coughs (d + 1) b 10 [vR 171, vI x1] [vI v1, vR 171] (stt g2) K
      refine ax_if_ne (off := 7) (tgt := 17) (x' := wr v1) (by decide +kernel) (by decide) rfl (fun hc => ?_) (fun hc => ?_)
      · have hG := hG.1 hc
        refine aw_iconst (n := 0) (by decide +kernel) ?_
        refine aw_iconst (n := 1) (by decide +kernel) ?_
        refine aw_callV (y := yX12_throwsIf) (M2 := mX12_throwsIf) (as := [vI 0, vI 1]) (S := []) (t := 171) (d2 := d) (b2 := 0) (b3 := b) cwX12_throwsIf mlX12_279 imX12_throwsIf seX12_throwsIf (by decide +kernel) rfl (ci := 10) rfl (OB.at (ci := 10) (show shp 171 = (20, 0) by decide +kernel) (by decide)) (Nat.le_refl _) (Nat.le_of_eq (Nat.zero_add _)) rfl rfl (by simp [oneSlot]) (Nat.le_of_ble_eq_true rfl) (c_throwsIf0 ?_)
        show AW Γ l mX12_coughs (d + 1) b 22 [vR 171, vI x1] [vI 0] (stt g2) K
        refine ax_if_eq (off := 5) (tgt := 27) (x' := 0) (by decide +kernel) (by decide) (by decide +kernel) (fun hc => ?_) (fun hc => absurd (by decide) hc)
        refine aw_aload_n (k' := 0) (by decide +kernel) rfl ?_
        refine aw_callV (y := yX12_laysWins) (M2 := mX12_laysWins) (as := []) (S := []) (t := 171) (d2 := d) (b2 := 0) (b3 := b) cwX12_laysWins mlX12_471 imX12_laysWins seX12_laysWins (by decide +kernel) rfl (ci := 10) rfl (OB.at (ci := 10) (show shp 171 = (20, 0) by decide +kernel) (by decide)) (Nat.le_refl _) (Nat.le_of_eq (Nat.zero_add _)) rfl rfl (by simp [oneSlot]) (Nat.le_of_ble_eq_true rfl) (Ct.mono hG ?_)
        rintro o h' (⟨g3, rfl, rfl, hG⟩ | ⟨E, g, rfl, rfl, hG⟩)
        · show AW Γ l mX12_coughs (d + 1) b 31 [vR 171, vI x1] [] (stt g3) K
          refine aw_aload_n (k' := 0) (by decide +kernel) rfl ?_
          refine gfX12_66 rfl (by decide +kernel) (OB.at (ci := 10) (show shp 171 = (20, 0) by decide +kernel) (by decide)) ?_
          refine AW.topR (show RC 171 32 = 188 by decide +kernel) ?_
          refine aw_iload_n (k' := 1) (by decide +kernel) rfl ?_
          refine ax_zald (i := wr x1) (by decide +kernel) (isA_lit (show shp 188 = (2, 100) by decide +kernel) (by decide)) rfl hG.1 ?_
          replace hG := hG.2
          exact aw_zret (by decide +kernel) rfl (nar_z hG.1) hG.2
        · exact hG
      · have hG := hG.2 hc
        refine aw_iconst (n := 1) (by decide +kernel) ?_
        refine aw_goto (off := 4) (tgt := 18) (by decide +kernel) (by decide) ?_
        refine aw_iconst (n := 1) (by decide +kernel) ?_
        refine aw_callV (y := yX12_throwsIf) (M2 := mX12_throwsIf) (as := [vI 1, vI 1]) (S := []) (t := 171) (d2 := d) (b2 := 0) (b3 := b) cwX12_throwsIf mlX12_279 imX12_throwsIf seX12_throwsIf (by decide +kernel) rfl (ci := 10) rfl (OB.at (ci := 10) (show shp 171 = (20, 0) by decide +kernel) (by decide)) (Nat.le_refl _) (Nat.le_of_eq (Nat.zero_add _)) rfl rfl (by simp [oneSlot]) (Nat.le_of_ble_eq_true rfl) (c_throwsIf1 ?_)
        show AW Γ l mX12_coughs (d + 1) b 22 [vR 171, vI x1] [vI 1] (stt (upd2 g2 171 0 1)) K
        refine ax_if_eq (off := 5) (tgt := 27) (x' := 1) (by decide +kernel) (by decide) (by decide +kernel) (fun hc => absurd hc (by decide)) (fun hc => ?_)
        refine aw_iconst (n := 0) (by decide +kernel) ?_
        exact aw_zret (by decide +kernel) rfl rfl hG
    · exact hG
  · exact hG

set_option maxHeartbeats 1000000 in
theorem wpX12_first {Γ : Cfg} {l : Launch} {d b : Nat} {g : GG} {K : Ou → HP → Prop} {x1 : Int} (hF : Ct Γ l d 0 yX12_uses mX12_uses [vR 171] (stt g) (bV (fun g1 => Ct Γ l d 0 yX12_areCoughs mX12_areCoughs [vR 171, vI x1] (stt g1) (bI (fun v1 g2 => (¬ wr v1 = 0 → Ct Γ l d 0 yX12_laysWins mX12_laysWins [vR 171] (stt g2) (bV (fun g3 => AW Γ l mX12_first (d + 1) b 36 [vR 171, vI x1, vI 1000000, vI 0] [] (stt g3) K) K)) ∧ (¬ (¬ wr v1 = 0) → K (.inl (vI 0)) (stt (upd2 g2 171 0 1)))) K)) K)) : Ct Γ l (d + 1) b yX12_first mX12_first [vR 171, vI x1] (stt g) K := by
  refine Ct.enter (L := [vR 171, vI x1, vU, vU]) rfl rfl rfl (by decide +kernel) (by simp [oneSlot]) (Nat.le_of_ble_eq_true rfl) rfl ?_
  refine aw_aload_n (k' := 0) (by decide +kernel) rfl ?_
  refine aw_callV (y := yX12_uses) (M2 := mX12_uses) (as := []) (S := []) (t := 171) (d2 := d) (b2 := 0) (b3 := b) cwX12_uses mlX12_268 imX12_uses seX12_uses (by decide +kernel) rfl (ci := 10) rfl (OB.at (ci := 10) (show shp 171 = (20, 0) by decide +kernel) (by decide)) (Nat.le_refl _) (Nat.le_of_eq (Nat.zero_add _)) rfl rfl (by simp [oneSlot]) (Nat.le_of_ble_eq_true rfl) (Ct.mono hF ?_)
  rintro o h' (⟨g1, rfl, rfl, hG⟩ | ⟨E, g, rfl, rfl, hG⟩)
  · show AW Γ l mX12_first (d + 1) b 4 [vR 171, vI x1, vU, vU] [] (stt g1) K
    refine aw_aload_n (k' := 0) (by decide +kernel) rfl ?_
    refine aw_aload_n (k' := 0) (by decide +kernel) rfl ?_
    refine aw_iload_n (k' := 1) (by decide +kernel) rfl ?_
    refine aw_callV (y := yX12_areCoughs) (M2 := mX12_areCoughs) (as := [vI x1]) (S := [vR 171]) (t := 171) (d2 := d) (b2 := 0) (b3 := b) cwX12_areCoughs mlX12_468 imX12_areCoughs seX12_areCoughs (by decide +kernel) rfl (ci := 10) rfl (OB.at (ci := 10) (show shp 171 = (20, 0) by decide +kernel) (by decide)) (Nat.le_refl _) (Nat.le_of_eq (Nat.zero_add _)) rfl rfl (by simp [oneSlot]) (Nat.le_of_ble_eq_true rfl) (Ct.mono hG ?_)
    rintro o h' (⟨v1, g2, rfl, rfl, hG⟩ | ⟨E, g, rfl, rfl, hG⟩)
    · show AW Γ l mX12_first (d + 1) b 10 [vR 171, vI x1, vU, vU] [vI v1, vR 171] (stt g2) K
      refine ax_if_ne (off := 7) (tgt := 17) (x' := wr v1) (by decide +kernel) (by decide) rfl (fun hc => ?_) (fun hc => ?_)
      · have hG := hG.1 hc
        refine aw_iconst (n := 0) (by decide +kernel) ?_
        refine aw_iconst (n := 1) (by decide +kernel) ?_
        refine aw_callV (y := yX12_throwsIf) (M2 := mX12_throwsIf) (as := [vI 0, vI 1]) (S := []) (t := 171) (d2 := d) (b2 := 0) (b3 := b) cwX12_throwsIf mlX12_279 imX12_throwsIf seX12_throwsIf (by decide +kernel) rfl (ci := 10) rfl (OB.at (ci := 10) (show shp 171 = (20, 0) by decide +kernel) (by decide)) (Nat.le_refl _) (Nat.le_of_eq (Nat.zero_add _)) rfl rfl (by simp [oneSlot]) (Nat.le_of_ble_eq_true rfl) (c_throwsIf0 ?_)
        show AW Γ l mX12_first (d + 1) b 22 [vR 171, vI x1, vU, vU] [vI 0] (stt g2) K
        refine ax_if_eq (off := 5) (tgt := 27) (x' := 0) (by decide +kernel) (by decide) (by decide +kernel) (fun hc => ?_) (fun hc => absurd (by decide) hc)
        refine aw_aload_n (k' := 0) (by decide +kernel) rfl ?_
        refine aw_callV (y := yX12_laysWins) (M2 := mX12_laysWins) (as := []) (S := []) (t := 171) (d2 := d) (b2 := 0) (b3 := b) cwX12_laysWins mlX12_471 imX12_laysWins seX12_laysWins (by decide +kernel) rfl (ci := 10) rfl (OB.at (ci := 10) (show shp 171 = (20, 0) by decide +kernel) (by decide)) (Nat.le_refl _) (Nat.le_of_eq (Nat.zero_add _)) rfl rfl (by simp [oneSlot]) (Nat.le_of_ble_eq_true rfl) (Ct.mono hG ?_)
        rintro o h' (⟨g3, rfl, rfl, hG⟩ | ⟨E, g, rfl, rfl, hG⟩)
        · show AW Γ l mX12_first (d + 1) b 31 [vR 171, vI x1, vU, vU] [] (stt g3) K
          refine aw_ldc (idx := 137) (z := 1000000) (by decide +kernel) (tm7 115 (by decide +kernel) (by decide +kernel)) ?_
          refine aw_istore_n (k' := 2) (by decide +kernel) (by decide) ?_
          show AW Γ l mX12_first (d + 1) b 34 [vR 171, vI x1, vI 1000000, vU] [] (stt g3) K
          refine aw_iconst (n := 0) (by decide +kernel) ?_
          refine aw_istore_n (k' := 3) (by decide +kernel) (by decide) ?_
          show AW Γ l mX12_first (d + 1) b 36 [vR 171, vI x1, vI 1000000, vI 0] [] (stt g3) K
          exact hG
        · exact hG
      · have hG := hG.2 hc
        refine aw_iconst (n := 1) (by decide +kernel) ?_
        refine aw_goto (off := 4) (tgt := 18) (by decide +kernel) (by decide) ?_
        refine aw_iconst (n := 1) (by decide +kernel) ?_
        refine aw_callV (y := yX12_throwsIf) (M2 := mX12_throwsIf) (as := [vI 1, vI 1]) (S := []) (t := 171) (d2 := d) (b2 := 0) (b3 := b) cwX12_throwsIf mlX12_279 imX12_throwsIf seX12_throwsIf (by decide +kernel) rfl (ci := 10) rfl (OB.at (ci := 10) (show shp 171 = (20, 0) by decide +kernel) (by decide)) (Nat.le_refl _) (Nat.le_of_eq (Nat.zero_add _)) rfl rfl (by simp [oneSlot]) (Nat.le_of_ble_eq_true rfl) (c_throwsIf1 ?_)
        show AW Γ l mX12_first (d + 1) b 22 [vR 171, vI x1, vU, vU] [vI 1] (stt (upd2 g2 171 0 1)) K
        refine ax_if_eq (off := 5) (tgt := 27) (x' := 1) (by decide +kernel) (by decide) (by decide +kernel) (fun hc => absurd hc (by decide)) (fun hc => ?_)
        refine aw_iconst (n := 0) (by decide +kernel) ?_
        exact aw_iret (by decide +kernel) rfl hG
    · exact hG
  · exact hG
set_option maxHeartbeats 1000000 in
theorem wpX12_first_36 {Γ : Cfg} {l : Launch} {d b : Nat} {g : GG} {K : Ou → HP → Prop} {x1 : Int} {y2 : Int} {y3 : Int} (hF : (wr (g 171 11) ≤ wr y3 → (¬ wr y2 = 1000000 → K (.inl (vI y2)) (stt g)) ∧ (¬ (¬ wr y2 = 1000000) → K (.inl (vI (-1))) (stt g))) ∧ (¬ (wr (g 171 11) ≤ wr y3) → (0 ≤ wr y3 ∧ wr y3 < 400) ∧ ((wr x1 < wr (g 177 (wr y3)) → AW Γ l mX12_first (d + 1) b 36 [vR 171, vI x1, vI y2, vI (y3 + 1)] [] (stt g) K) ∧ (¬ (wr x1 < wr (g 177 (wr y3))) → (0 ≤ wr y3 ∧ wr y3 < 400) ∧ ((0 ≤ wr (x1 - (g 177 (wr y3))) ∧ wr (x1 - (g 177 (wr y3))) < 100) ∧ ((¬ wr (g 188 (wr (x1 - (g 177 (wr y3))))) = 0 → AW Γ l mX12_first (d + 1) b 36 [vR 171, vI x1, vI y2, vI (y3 + 1)] [] (stt g) K) ∧ (¬ (¬ wr (g 188 (wr (x1 - (g 177 (wr y3))))) = 0) → (0 ≤ wr y3 ∧ wr y3 < 400) ∧ (AW Γ l mX12_first (d + 1) b 36 [vR 171, vI x1, vI (iMin y2 (g 177 (wr y3))), vI (y3 + 1)] [] (stt g) K)))))))) : AW Γ l mX12_first (d + 1) b 36 [vR 171, vI x1, vI y2, vI y3] [] (stt g) K := by
  refine aw_iload_n (k' := 3) (by decide +kernel) rfl ?_
  refine aw_aload_n (k' := 0) (by decide +kernel) rfl ?_
  refine gfX12_102 rfl (by decide +kernel) (OB.at (ci := 10) (show shp 171 = (20, 0) by decide +kernel) (by decide)) ?_
  refine ax_icmp_ge (off := 50) (tgt := 91) (x' := wr y3) (y' := wr (g 171 11)) (by decide +kernel) (by decide) rfl rfl (fun hc => ?_) (fun hc => ?_)
  · have hF := hF.1 hc
    refine aw_iload_n (k' := 2) (by decide +kernel) rfl ?_
    refine aw_ldc (idx := 137) (z := 1000000) (by decide +kernel) (tm7 115 (by decide +kernel) (by decide +kernel)) ?_
    refine ax_icmp_ne (off := 7) (tgt := 101) (x' := wr y2) (y' := 1000000) (by decide +kernel) (by decide) rfl (by decide +kernel) (fun hc => ?_) (fun hc => ?_)
    · have hF := hF.1 hc
      refine aw_iload_n (k' := 2) (by decide +kernel) rfl ?_
      exact aw_iret (by decide +kernel) rfl hF
    · have hF := hF.2 hc
      refine aw_iconst (n := -1) (by decide +kernel) ?_
      refine aw_goto (off := 4) (tgt := 102) (by decide +kernel) (by decide) ?_
      exact aw_iret (by decide +kernel) rfl hF
  · have hF := hF.2 hc
    refine aw_aload_n (k' := 0) (by decide +kernel) rfl ?_
    refine gfX12_29 rfl (by decide +kernel) (OB.at (ci := 10) (show shp 171 = (20, 0) by decide +kernel) (by decide)) ?_
    refine AW.topR (show RC 171 8 = 177 by decide +kernel) ?_
    refine aw_iload_n (k' := 3) (by decide +kernel) rfl ?_
    refine ax_bald (i := wr y3) (by decide +kernel) (isA_lit (show shp 177 = (1, 400) by decide +kernel) (by decide)) rfl hF.1 ?_
    replace hF := hF.2
    refine aw_iload_n (k' := 1) (by decide +kernel) rfl ?_
    refine ax_icmp_gt (off := 32) (tgt := 83) (x' := wr (g 177 (wr y3))) (y' := wr x1) (by decide +kernel) (by decide) rfl rfl (fun hc => ?_) (fun hc => ?_)
    · have hF := hF.1 hc
      refine aw_iload_n (k' := 2) (by decide +kernel) rfl ?_
      refine aw_istore_n (k' := 2) (by decide +kernel) (by decide) ?_
      show AW Γ l mX12_first (d + 1) b 85 [vR 171, vI x1, vI y2, vI y3] [] (stt g) K
      refine aw_iinc (i := 3) (n := 1) (by decide +kernel) rfl (by decide) ?_
      show AW Γ l mX12_first (d + 1) b 88 [vR 171, vI x1, vI y2, vI (y3 + 1)] [] (stt g) K
      refine aw_goto (off := -52) (tgt := 36) (by decide +kernel) (by decide) ?_
      exact hF
    · have hF := hF.2 hc
      refine aw_aload_n (k' := 0) (by decide +kernel) rfl ?_
      refine gfX12_66 rfl (by decide +kernel) (OB.at (ci := 10) (show shp 171 = (20, 0) by decide +kernel) (by decide)) ?_
      refine AW.topR (show RC 171 32 = 188 by decide +kernel) ?_
      refine aw_iload_n (k' := 1) (by decide +kernel) rfl ?_
      refine aw_aload_n (k' := 0) (by decide +kernel) rfl ?_
      refine gfX12_29 rfl (by decide +kernel) (OB.at (ci := 10) (show shp 171 = (20, 0) by decide +kernel) (by decide)) ?_
      refine AW.topR (show RC 171 8 = 177 by decide +kernel) ?_
      refine aw_iload_n (k' := 3) (by decide +kernel) rfl ?_
      refine ax_bald (i := wr y3) (by decide +kernel) (isA_lit (show shp 177 = (1, 400) by decide +kernel) (by decide)) rfl hF.1 ?_
      replace hF := hF.2
      refine aw_isub (by decide +kernel) ?_
      refine ax_zald (i := wr (x1 - (g 177 (wr y3)))) (by decide +kernel) (isA_lit (show shp 188 = (2, 100) by decide +kernel) (by decide)) rfl hF.1 ?_
      replace hF := hF.2
      refine ax_if_ne (off := 16) (tgt := 83) (x' := wr (g 188 (wr (x1 - (g 177 (wr y3)))))) (by decide +kernel) (by decide) rfl (fun hc => ?_) (fun hc => ?_)
      · have hF := hF.1 hc
        refine aw_iload_n (k' := 2) (by decide +kernel) rfl ?_
        refine aw_istore_n (k' := 2) (by decide +kernel) (by decide) ?_
        show AW Γ l mX12_first (d + 1) b 85 [vR 171, vI x1, vI y2, vI y3] [] (stt g) K
        refine aw_iinc (i := 3) (n := 1) (by decide +kernel) rfl (by decide) ?_
        show AW Γ l mX12_first (d + 1) b 88 [vR 171, vI x1, vI y2, vI (y3 + 1)] [] (stt g) K
        refine aw_goto (off := -52) (tgt := 36) (by decide +kernel) (by decide) ?_
        exact hF
      · have hF := hF.2 hc
        refine aw_iload_n (k' := 2) (by decide +kernel) rfl ?_
        refine aw_aload_n (k' := 0) (by decide +kernel) rfl ?_
        refine gfX12_29 rfl (by decide +kernel) (OB.at (ci := 10) (show shp 171 = (20, 0) by decide +kernel) (by decide)) ?_
        refine AW.topR (show RC 171 8 = 177 by decide +kernel) ?_
        refine aw_iload_n (k' := 3) (by decide +kernel) rfl ?_
        refine ax_bald (i := wr y3) (by decide +kernel) (isA_lit (show shp 177 = (1, 400) by decide +kernel) (by decide)) rfl hF.1 ?_
        replace hF := hF.2
        refine aw_mmin (by decide +kernel) mlX12_285 stJ9_min_7cf53 cwM_init cwM_min (by simp [oneSlot]) (Nat.le_of_ble_eq_true rfl) ?_
        refine aw_goto (off := 4) (tgt := 84) (by decide +kernel) (by decide) ?_
        refine aw_istore_n (k' := 2) (by decide +kernel) (by decide) ?_
        show AW Γ l mX12_first (d + 1) b 85 [vR 171, vI x1, vI (iMin y2 (g 177 (wr y3))), vI y3] [] (stt g) K
        refine aw_iinc (i := 3) (n := 1) (by decide +kernel) rfl (by decide) ?_
        show AW Γ l mX12_first (d + 1) b 88 [vR 171, vI x1, vI (iMin y2 (g 177 (wr y3))), vI (y3 + 1)] [] (stt g) K
        refine aw_goto (off := -52) (tgt := 36) (by decide +kernel) (by decide) ?_
        exact hF

set_option maxHeartbeats 1000000 in
theorem wpX12_alikeOf {Γ : Cfg} {l : Launch} {d b : Nat} {g : GG} {K : Ou → HP → Prop} {x1 : Int} {x2 : Int} (hF : AW Γ l mX12_alikeOf (d + 3) b 5 [vR 171, vI x1, vI x2, vI 0, vI 0] [] (stt g) K) : Ct Γ l (d + 3) b yX12_alikeOf mX12_alikeOf [vR 171, vI x1, vI x2] (stt g) K := by
  refine Ct.enter (L := [vR 171, vI x1, vI x2, vU, vU]) rfl rfl rfl (by decide +kernel) (by simp [oneSlot]) (Nat.le_of_ble_eq_true rfl) rfl ?_
  refine aw_iconst (n := 0) (by decide +kernel) ?_
  refine aw_istore_n (k' := 3) (by decide +kernel) (by decide) ?_
  show AW Γ l mX12_alikeOf (d + 3) b 2 [vR 171, vI x1, vI x2, vI 0, vU] [] (stt g) K
  refine aw_iconst (n := 0) (by decide +kernel) ?_
  refine aw_istore (i := 4) (by decide +kernel) (by decide) ?_
  show AW Γ l mX12_alikeOf (d + 3) b 5 [vR 171, vI x1, vI x2, vI 0, vI 0] [] (stt g) K
  exact hF
set_option maxHeartbeats 1000000 in
theorem wpX12_alikeOf_5 {Γ : Cfg} {l : Launch} {d b : Nat} {g : GG} {K : Ou → HP → Prop} {x1 : Int} {x2 : Int} {y3 : Int} {y4 : Int} (hF : (okP x1 0) ∧ ((okP x2 0) ∧ ((wr (iMin (ofP g x1 0) (ofP g x2 0)) ≤ wr y4 → K (.inl (vI y3)) (stt g)) ∧ (¬ (wr (iMin (ofP g x1 0) (ofP g x2 0)) ≤ wr y4) → (okP x1 (5 + 2 * y4)) ∧ ((okP x2 (5 + 2 * y4)) ∧ ((¬ wr (ofP g x1 (5 + 2 * y4)) = wr (ofP g x2 (5 + 2 * y4)) → AW Γ l mX12_alikeOf (d + 3) b 5 [vR 171, vI x1, vI x2, vI (y3 + 0), vI (y4 + 1)] [] (stt g) K) ∧ (¬ (¬ wr (ofP g x1 (5 + 2 * y4)) = wr (ofP g x2 (5 + 2 * y4))) → (okP x1 (5 + 2 * y4 + 1)) ∧ ((okP x2 (5 + 2 * y4 + 1)) ∧ ((¬ wr (ofP g x1 (5 + 2 * y4 + 1)) = wr (ofP g x2 (5 + 2 * y4 + 1)) → AW Γ l mX12_alikeOf (d + 3) b 5 [vR 171, vI x1, vI x2, vI (y3 + 0), vI (y4 + 1)] [] (stt g) K) ∧ (¬ (¬ wr (ofP g x1 (5 + 2 * y4 + 1)) = wr (ofP g x2 (5 + 2 * y4 + 1))) → AW Γ l mX12_alikeOf (d + 3) b 5 [vR 171, vI x1, vI x2, vI (y3 + 1), vI (y4 + 1)] [] (stt g) K)))))))))) : AW Γ l mX12_alikeOf (d + 3) b 5 [vR 171, vI x1, vI x2, vI y3, vI y4] [] (stt g) K := by
  refine aw_iload (i := 4) (by decide +kernel) rfl ?_
  refine aw_aload_n (k' := 0) (by decide +kernel) rfl ?_
  refine aw_iload_n (k' := 1) (by decide +kernel) rfl ?_
  refine aw_iconst (n := 0) (by decide +kernel) ?_
  refine aw_callV (y := yX12_of) (M2 := mX12_of) (as := [vI x1, vI 0]) (S := [vI y4]) (t := 171) (d2 := (d + 2)) (b2 := 0) (b3 := b) cwX12_of mlX12_84 imX12_of seX12_of (by decide +kernel) rfl (ci := 10) rfl (OB.at (ci := 10) (show shp 171 = (20, 0) by decide +kernel) (by decide)) (Nat.le_refl _) (Nat.le_of_eq (Nat.zero_add _)) rfl rfl (by simp [oneSlot]) (Nat.le_of_ble_eq_true rfl) (c_of hF.1 ?_)
  show AW Γ l mX12_alikeOf (d + 3) b 13 [vR 171, vI x1, vI x2, vI y3, vI y4] [vI (ofP g x1 0), vI y4] (stt g) K
  replace hF := hF.2
  refine aw_aload_n (k' := 0) (by decide +kernel) rfl ?_
  refine aw_iload_n (k' := 2) (by decide +kernel) rfl ?_
  refine aw_iconst (n := 0) (by decide +kernel) ?_
  refine aw_callV (y := yX12_of) (M2 := mX12_of) (as := [vI x2, vI 0]) (S := [vI (ofP g x1 0), vI y4]) (t := 171) (d2 := (d + 2)) (b2 := 0) (b3 := b) cwX12_of mlX12_84 imX12_of seX12_of (by decide +kernel) rfl (ci := 10) rfl (OB.at (ci := 10) (show shp 171 = (20, 0) by decide +kernel) (by decide)) (Nat.le_refl _) (Nat.le_of_eq (Nat.zero_add _)) rfl rfl (by simp [oneSlot]) (Nat.le_of_ble_eq_true rfl) (c_of hF.1 ?_)
  show AW Γ l mX12_alikeOf (d + 3) b 19 [vR 171, vI x1, vI x2, vI y3, vI y4] [vI (ofP g x2 0), vI (ofP g x1 0), vI y4] (stt g) K
  replace hF := hF.2
  refine aw_mmin (by decide +kernel) mlX12_285 stJ9_min_7cf53 cwM_init cwM_min (by simp [oneSlot]) (Nat.le_of_ble_eq_true rfl) ?_
  refine ax_icmp_ge (off := 51) (tgt := 73) (x' := wr y4) (y' := wr (iMin (ofP g x1 0) (ofP g x2 0))) (by decide +kernel) (by decide) rfl rfl (fun hc => ?_) (fun hc => ?_)
  · have hF := hF.1 hc
    refine aw_iload_n (k' := 3) (by decide +kernel) rfl ?_
    exact aw_iret (by decide +kernel) rfl hF
  · have hF := hF.2 hc
    refine aw_iload_n (k' := 3) (by decide +kernel) rfl ?_
    refine aw_aload_n (k' := 0) (by decide +kernel) rfl ?_
    refine aw_iload_n (k' := 1) (by decide +kernel) rfl ?_
    refine aw_iload (i := 4) (by decide +kernel) rfl ?_
    refine aw_callV (y := yX12_kindOf) (M2 := mX12_kindOf) (as := [vI x1, vI y4]) (S := [vI y3]) (t := 171) (d2 := (d + 2)) (b2 := 0) (b3 := b) cwX12_kindOf mlX12_303 imX12_kindOf seX12_kindOf (by decide +kernel) rfl (ci := 10) rfl (OB.at (ci := 10) (show shp 171 = (20, 0) by decide +kernel) (by decide)) (Nat.le_refl _) (Nat.le_of_eq (Nat.zero_add _)) rfl rfl (by simp [oneSlot]) (Nat.le_of_ble_eq_true rfl) (c_kindOf hF.1 ?_)
    show AW Γ l mX12_alikeOf (d + 3) b 33 [vR 171, vI x1, vI x2, vI y3, vI y4] [vI (ofP g x1 (5 + 2 * y4)), vI y3] (stt g) K
    replace hF := hF.2
    refine aw_aload_n (k' := 0) (by decide +kernel) rfl ?_
    refine aw_iload_n (k' := 2) (by decide +kernel) rfl ?_
    refine aw_iload (i := 4) (by decide +kernel) rfl ?_
    refine aw_callV (y := yX12_kindOf) (M2 := mX12_kindOf) (as := [vI x2, vI y4]) (S := [vI (ofP g x1 (5 + 2 * y4)), vI y3]) (t := 171) (d2 := (d + 2)) (b2 := 0) (b3 := b) cwX12_kindOf mlX12_303 imX12_kindOf seX12_kindOf (by decide +kernel) rfl (ci := 10) rfl (OB.at (ci := 10) (show shp 171 = (20, 0) by decide +kernel) (by decide)) (Nat.le_refl _) (Nat.le_of_eq (Nat.zero_add _)) rfl rfl (by simp [oneSlot]) (Nat.le_of_ble_eq_true rfl) (c_kindOf hF.1 ?_)
    show AW Γ l mX12_alikeOf (d + 3) b 40 [vR 171, vI x1, vI x2, vI y3, vI y4] [vI (ofP g x2 (5 + 2 * y4)), vI (ofP g x1 (5 + 2 * y4)), vI y3] (stt g) K
    replace hF := hF.2
    refine ax_icmp_ne (off := 24) (tgt := 64) (x' := wr (ofP g x1 (5 + 2 * y4))) (y' := wr (ofP g x2 (5 + 2 * y4))) (by decide +kernel) (by decide) rfl rfl (fun hc => ?_) (fun hc => ?_)
    · have hF := hF.1 hc
      refine aw_iconst (n := 0) (by decide +kernel) ?_
      refine aw_iadd (by decide +kernel) ?_
      refine aw_istore_n (k' := 3) (by decide +kernel) (by decide) ?_
      show AW Γ l mX12_alikeOf (d + 3) b 67 [vR 171, vI x1, vI x2, vI (y3 + 0), vI y4] [] (stt g) K
      refine aw_iinc (i := 4) (n := 1) (by decide +kernel) rfl (by decide) ?_
      show AW Γ l mX12_alikeOf (d + 3) b 70 [vR 171, vI x1, vI x2, vI (y3 + 0), vI (y4 + 1)] [] (stt g) K
      refine aw_goto (off := -65) (tgt := 5) (by decide +kernel) (by decide) ?_
      exact hF
    · have hF := hF.2 hc
      refine aw_aload_n (k' := 0) (by decide +kernel) rfl ?_
      refine aw_iload_n (k' := 1) (by decide +kernel) rfl ?_
      refine aw_iload (i := 4) (by decide +kernel) rfl ?_
      refine aw_callV (y := yX12_numberOf) (M2 := mX12_numberOf) (as := [vI x1, vI y4]) (S := [vI y3]) (t := 171) (d2 := (d + 2)) (b2 := 0) (b3 := b) cwX12_numberOf mlX12_306 imX12_numberOf seX12_numberOf (by decide +kernel) rfl (ci := 10) rfl (OB.at (ci := 10) (show shp 171 = (20, 0) by decide +kernel) (by decide)) (Nat.le_refl _) (Nat.le_of_eq (Nat.zero_add _)) rfl rfl (by simp [oneSlot]) (Nat.le_of_ble_eq_true rfl) (c_numberOf hF.1 ?_)
      show AW Γ l mX12_alikeOf (d + 3) b 50 [vR 171, vI x1, vI x2, vI y3, vI y4] [vI (ofP g x1 (5 + 2 * y4 + 1)), vI y3] (stt g) K
      replace hF := hF.2
      refine aw_aload_n (k' := 0) (by decide +kernel) rfl ?_
      refine aw_iload_n (k' := 2) (by decide +kernel) rfl ?_
      refine aw_iload (i := 4) (by decide +kernel) rfl ?_
      refine aw_callV (y := yX12_numberOf) (M2 := mX12_numberOf) (as := [vI x2, vI y4]) (S := [vI (ofP g x1 (5 + 2 * y4 + 1)), vI y3]) (t := 171) (d2 := (d + 2)) (b2 := 0) (b3 := b) cwX12_numberOf mlX12_306 imX12_numberOf seX12_numberOf (by decide +kernel) rfl (ci := 10) rfl (OB.at (ci := 10) (show shp 171 = (20, 0) by decide +kernel) (by decide)) (Nat.le_refl _) (Nat.le_of_eq (Nat.zero_add _)) rfl rfl (by simp [oneSlot]) (Nat.le_of_ble_eq_true rfl) (c_numberOf hF.1 ?_)
      show AW Γ l mX12_alikeOf (d + 3) b 57 [vR 171, vI x1, vI x2, vI y3, vI y4] [vI (ofP g x2 (5 + 2 * y4 + 1)), vI (ofP g x1 (5 + 2 * y4 + 1)), vI y3] (stt g) K
      replace hF := hF.2
      refine ax_icmp_ne (off := 7) (tgt := 64) (x' := wr (ofP g x1 (5 + 2 * y4 + 1))) (y' := wr (ofP g x2 (5 + 2 * y4 + 1))) (by decide +kernel) (by decide) rfl rfl (fun hc => ?_) (fun hc => ?_)
      · have hF := hF.1 hc
        refine aw_iconst (n := 0) (by decide +kernel) ?_
        refine aw_iadd (by decide +kernel) ?_
        refine aw_istore_n (k' := 3) (by decide +kernel) (by decide) ?_
        show AW Γ l mX12_alikeOf (d + 3) b 67 [vR 171, vI x1, vI x2, vI (y3 + 0), vI y4] [] (stt g) K
        refine aw_iinc (i := 4) (n := 1) (by decide +kernel) rfl (by decide) ?_
        show AW Γ l mX12_alikeOf (d + 3) b 70 [vR 171, vI x1, vI x2, vI (y3 + 0), vI (y4 + 1)] [] (stt g) K
        refine aw_goto (off := -65) (tgt := 5) (by decide +kernel) (by decide) ?_
        exact hF
      · have hF := hF.2 hc
        refine aw_iconst (n := 1) (by decide +kernel) ?_
        refine aw_goto (off := 4) (tgt := 65) (by decide +kernel) (by decide) ?_
        refine aw_iadd (by decide +kernel) ?_
        refine aw_istore_n (k' := 3) (by decide +kernel) (by decide) ?_
        show AW Γ l mX12_alikeOf (d + 3) b 67 [vR 171, vI x1, vI x2, vI (y3 + 1), vI y4] [] (stt g) K
        refine aw_iinc (i := 4) (n := 1) (by decide +kernel) rfl (by decide) ?_
        show AW Γ l mX12_alikeOf (d + 3) b 70 [vR 171, vI x1, vI x2, vI (y3 + 1), vI (y4 + 1)] [] (stt g) K
        refine aw_goto (off := -65) (tgt := 5) (by decide +kernel) (by decide) ?_
        exact hF

set_option maxHeartbeats 1000000 in
theorem wpX12_pairedBy {Γ : Cfg} {l : Launch} {d b : Nat} {g : GG} {K : Ou → HP → Prop} {x1 : Int} {x2 : Int} (hF : Ct Γ l d 0 yX12_firstOf mX12_firstOf [vI x1] (stt g) (bI (fun v1 g1 => (¬ wr x2 = -1 → (wr (iAnd (iShr (iAnd x1 (iXor (iShl 1 v1) (-1))) x2) 1) = 1 → Ct Γ l d 0 yX12_alikeOf mX12_alikeOf [vR 171, vI v1, vI x2] (stt g1) (bI (fun v2 g2 => (0 ≤ wr (iAnd (iAnd x1 (iXor (iShl 1 v1) (-1))) (iXor (iShl 1 x2) (-1))) ∧ wr (iAnd (iAnd x1 (iXor (iShl 1 v1) (-1))) (iXor (iShl 1 x2) (-1))) < 64) ∧ (K (.inl (vI (v2 + (g2 189 (wr (iAnd (iAnd x1 (iXor (iShl 1 v1) (-1))) (iXor (iShl 1 x2) (-1)))))))) (stt g2))) K)) ∧ (¬ (wr (iAnd (iShr (iAnd x1 (iXor (iShl 1 v1) (-1))) x2) 1) = 1) → K (.inl (vI (-1))) (stt g1))) ∧ (¬ (¬ wr x2 = -1) → (0 ≤ wr (iAnd x1 (iXor (iShl 1 v1) (-1))) ∧ wr (iAnd x1 (iXor (iShl 1 v1) (-1))) < 64) ∧ (K (.inl (vI (g1 189 (wr (iAnd x1 (iXor (iShl 1 v1) (-1))))))) (stt g1)))) K)) : Ct Γ l (d + 1) b yX12_pairedBy mX12_pairedBy [vR 171, vI x1, vI x2] (stt g) K := by
  refine Ct.enter (L := [vR 171, vI x1, vI x2, vU, vU]) rfl rfl rfl (by decide +kernel) (by simp [oneSlot]) (Nat.le_of_ble_eq_true rfl) rfl ?_
  refine aw_iload_n (k' := 1) (by decide +kernel) rfl ?_
  refine aw_callS (y := yX12_firstOf) (M2 := mX12_firstOf) (as := [vI x1]) (S := []) (d2 := d) (b2 := 0) (b3 := b) cwX12_firstOf mlX12_462 stX12_firstOf (by decide +kernel) rfl (Nat.le_refl _) (Nat.le_of_eq (Nat.zero_add _)) rfl rfl (by simp [oneSlot]) (Nat.le_of_ble_eq_true rfl) (Ct.mono hF ?_)
  rintro o h' (⟨v1, g1, rfl, rfl, hG⟩ | ⟨E, g, rfl, rfl, hG⟩)
  · show AW Γ l mX12_pairedBy (d + 1) b 4 [vR 171, vI x1, vI x2, vU, vU] [vI v1] (stt g1) K
    refine aw_istore_n (k' := 3) (by decide +kernel) (by decide) ?_
    show AW Γ l mX12_pairedBy (d + 1) b 5 [vR 171, vI x1, vI x2, vI v1, vU] [] (stt g1) K
    refine aw_iload_n (k' := 1) (by decide +kernel) rfl ?_
    refine aw_iconst (n := 1) (by decide +kernel) ?_
    refine aw_iload_n (k' := 3) (by decide +kernel) rfl ?_
    refine aw_ishl (by decide +kernel) ?_
    refine aw_iconst (n := -1) (by decide +kernel) ?_
    refine aw_ixor (by decide +kernel) ?_
    refine aw_iand (by decide +kernel) ?_
    refine aw_istore (i := 4) (by decide +kernel) (by decide) ?_
    show AW Γ l mX12_pairedBy (d + 1) b 14 [vR 171, vI x1, vI x2, vI v1, vI (iAnd x1 (iXor (iShl 1 v1) (-1)))] [] (stt g1) K
    refine aw_iload_n (k' := 2) (by decide +kernel) rfl ?_
    refine aw_iconst (n := -1) (by decide +kernel) ?_
    refine ax_icmp_ne (off := 11) (tgt := 27) (x' := wr x2) (y' := -1) (by decide +kernel) (by decide) rfl (by decide +kernel) (fun hc => ?_) (fun hc => ?_)
    · have hG := hG.1 hc
      refine aw_iload (i := 4) (by decide +kernel) rfl ?_
      refine aw_iload_n (k' := 2) (by decide +kernel) rfl ?_
      refine aw_callS (y := yX12_has) (M2 := mX12_has) (as := [vI (iAnd x1 (iXor (iShl 1 v1) (-1))), vI x2]) (S := []) (d2 := d) (b2 := 0) (b3 := b) cwX12_has mlX12_444 stX12_has (by decide +kernel) rfl (Nat.le_refl _) (Nat.le_of_eq (Nat.zero_add _)) rfl rfl (by simp [oneSlot]) (Nat.le_of_ble_eq_true rfl) (c_has12 (fun hc => ?_) (fun hc => ?_))
      · have hG := hG.1 hc
        show AW Γ l mX12_pairedBy (d + 1) b 33 [vR 171, vI x1, vI x2, vI v1, vI (iAnd x1 (iXor (iShl 1 v1) (-1)))] [vI 1] (stt g1) K
        refine ax_if_eq (off := 26) (tgt := 59) (x' := 1) (by decide +kernel) (by decide) (by decide +kernel) (fun hc => absurd hc (by decide)) (fun hc => ?_)
        refine aw_aload_n (k' := 0) (by decide +kernel) rfl ?_
        refine aw_iload_n (k' := 3) (by decide +kernel) rfl ?_
        refine aw_iload_n (k' := 2) (by decide +kernel) rfl ?_
        refine aw_callV (y := yX12_alikeOf) (M2 := mX12_alikeOf) (as := [vI v1, vI x2]) (S := []) (t := 171) (d2 := d) (b2 := 0) (b3 := b) cwX12_alikeOf mlX12_474 imX12_alikeOf seX12_alikeOf (by decide +kernel) rfl (ci := 10) rfl (OB.at (ci := 10) (show shp 171 = (20, 0) by decide +kernel) (by decide)) (Nat.le_refl _) (Nat.le_of_eq (Nat.zero_add _)) rfl rfl (by simp [oneSlot]) (Nat.le_of_ble_eq_true rfl) (Ct.mono hG ?_)
        rintro o h' (⟨v2, g2, rfl, rfl, hG⟩ | ⟨E, g, rfl, rfl, hG⟩)
        · show AW Γ l mX12_pairedBy (d + 1) b 42 [vR 171, vI x1, vI x2, vI v1, vI (iAnd x1 (iXor (iShl 1 v1) (-1)))] [vI v2] (stt g2) K
          refine aw_aload_n (k' := 0) (by decide +kernel) rfl ?_
          refine gfX12_70 rfl (by decide +kernel) (OB.at (ci := 10) (show shp 171 = (20, 0) by decide +kernel) (by decide)) ?_
          refine AW.topR (show RC 171 33 = 189 by decide +kernel) ?_
          refine aw_iload (i := 4) (by decide +kernel) rfl ?_
          refine aw_iconst (n := 1) (by decide +kernel) ?_
          refine aw_iload_n (k' := 2) (by decide +kernel) rfl ?_
          refine aw_ishl (by decide +kernel) ?_
          refine aw_iconst (n := -1) (by decide +kernel) ?_
          refine aw_ixor (by decide +kernel) ?_
          refine aw_iand (by decide +kernel) ?_
          refine ax_iald (i := wr (iAnd (iAnd x1 (iXor (iShl 1 v1) (-1))) (iXor (iShl 1 x2) (-1)))) (by decide +kernel) (isA_lit (show shp 189 = (0, 64) by decide +kernel) (by decide)) rfl hG.1 ?_
          replace hG := hG.2
          refine aw_iadd (by decide +kernel) ?_
          refine aw_goto (off := 4) (tgt := 60) (by decide +kernel) (by decide) ?_
          exact aw_iret (by decide +kernel) rfl hG
        · exact hG
      · have hG := hG.2 hc
        show AW Γ l mX12_pairedBy (d + 1) b 33 [vR 171, vI x1, vI x2, vI v1, vI (iAnd x1 (iXor (iShl 1 v1) (-1)))] [vI 0] (stt g1) K
        refine ax_if_eq (off := 26) (tgt := 59) (x' := 0) (by decide +kernel) (by decide) (by decide +kernel) (fun hc => ?_) (fun hc => absurd (by decide) hc)
        refine aw_iconst (n := -1) (by decide +kernel) ?_
        exact aw_iret (by decide +kernel) rfl hG
    · have hG := hG.2 hc
      refine aw_aload_n (k' := 0) (by decide +kernel) rfl ?_
      refine gfX12_70 rfl (by decide +kernel) (OB.at (ci := 10) (show shp 171 = (20, 0) by decide +kernel) (by decide)) ?_
      refine AW.topR (show RC 171 33 = 189 by decide +kernel) ?_
      refine aw_iload (i := 4) (by decide +kernel) rfl ?_
      refine ax_iald (i := wr (iAnd x1 (iXor (iShl 1 v1) (-1)))) (by decide +kernel) (isA_lit (show shp 189 = (0, 64) by decide +kernel) (by decide)) rfl hG.1 ?_
      replace hG := hG.2
      exact aw_iret (by decide +kernel) rfl hG
  · exact hG

set_option maxHeartbeats 1000000 in
theorem wpX12_laysPairs {Γ : Cfg} {l : Launch} {d b : Nat} {g : GG} {K : Ou → HP → Prop}  (hF : AW Γ l mX12_laysPairs (d + 1) b 9 [vR 171, vI 1, vU, vU] [] (stt (upd2 g 189 0 0)) K) : Ct Γ l (d + 1) b yX12_laysPairs mX12_laysPairs [vR 171] (stt g) K := by
  refine Ct.enter (L := [vR 171, vU, vU, vU]) rfl rfl rfl (by decide +kernel) (by simp [oneSlot]) (Nat.le_of_ble_eq_true rfl) rfl ?_
  refine aw_aload_n (k' := 0) (by decide +kernel) rfl ?_
  refine gfX12_70 rfl (by decide +kernel) (OB.at (ci := 10) (show shp 171 = (20, 0) by decide +kernel) (by decide)) ?_
  refine AW.topR (show RC 171 33 = 189 by decide +kernel) ?_
  refine aw_iconst (n := 0) (by decide +kernel) ?_
  refine aw_iconst (n := 0) (by decide +kernel) ?_
  refine ax_iast (i := 0) (by decide +kernel) (isA_lit (show shp 189 = (0, 64) by decide +kernel) (by decide)) (by decide +kernel) ⟨by decide, by decide⟩ ?_
  show AW Γ l mX12_laysPairs (d + 1) b 7 [vR 171, vU, vU, vU] [] (stt (upd2 g 189 0 0)) K
  refine aw_iconst (n := 1) (by decide +kernel) ?_
  refine aw_istore_n (k' := 1) (by decide +kernel) (by decide) ?_
  show AW Γ l mX12_laysPairs (d + 1) b 9 [vR 171, vI 1, vU, vU] [] (stt (upd2 g 189 0 0)) K
  exact hF
set_option maxHeartbeats 1000000 in
theorem wpX12_laysPairs_9 {Γ : Cfg} {l : Launch} {d b : Nat} {g : GG} {K : Ou → HP → Prop} {y1 : Int} (hF : (wr (iShl 1 (g 172 0)) ≤ wr y1 → K (.inl vU) (stt g)) ∧ (¬ (wr (iShl 1 (g 172 0)) ≤ wr y1) → AW Γ l mX12_laysPairs (d + 1) b 23 [vR 171, vI y1, vI 0, vI (-1)] [] (stt g) K)) : AW Γ l mX12_laysPairs (d + 1) b 9 [vR 171, vI y1, vU, vU] [] (stt g) K := by
  refine aw_iload_n (k' := 1) (by decide +kernel) rfl ?_
  refine aw_iconst (n := 1) (by decide +kernel) ?_
  refine aw_aload_n (k' := 0) (by decide +kernel) rfl ?_
  refine aw_callV (y := yX12_people) (M2 := mX12_people) (as := []) (S := [vI 1, vI y1]) (t := 171) (d2 := d) (b2 := 0) (b3 := b) cwX12_people mlX12_87 imX12_people seX12_people (by decide +kernel) rfl (ci := 10) rfl (OB.at (ci := 10) (show shp 171 = (20, 0) by decide +kernel) (by decide)) (Nat.le_refl _) (Nat.le_of_eq (Nat.zero_add _)) rfl rfl (by simp [oneSlot]) (Nat.le_of_ble_eq_true rfl) (c_people ?_)
  show AW Γ l mX12_laysPairs (d + 1) b 15 [vR 171, vI y1, vU, vU] [vI (g 172 0), vI 1, vI y1] (stt g) K
  refine aw_ishl (by decide +kernel) ?_
  refine ax_icmp_ge (off := 45) (tgt := 61) (x' := wr y1) (y' := wr (iShl 1 (g 172 0))) (by decide +kernel) (by decide) rfl rfl (fun hc => ?_) (fun hc => ?_)
  · have hF := hF.1 hc
    exact aw_vret (by decide +kernel) rfl hF
  · have hF := hF.2 hc
    refine aw_iconst (n := 0) (by decide +kernel) ?_
    refine aw_istore_n (k' := 2) (by decide +kernel) (by decide) ?_
    show AW Γ l mX12_laysPairs (d + 1) b 21 [vR 171, vI y1, vI 0, vU] [] (stt g) K
    refine aw_iconst (n := -1) (by decide +kernel) ?_
    refine aw_istore_n (k' := 3) (by decide +kernel) (by decide) ?_
    show AW Γ l mX12_laysPairs (d + 1) b 23 [vR 171, vI y1, vI 0, vI (-1)] [] (stt g) K
    exact hF
set_option maxHeartbeats 1000000 in
theorem wpX12_laysPairs_23 {Γ : Cfg} {l : Launch} {d b : Nat} {g : GG} {K : Ou → HP → Prop} {y1 : Int} {y2 : Int} {y3 : Int} (hF : (wr (g 172 0) ≤ wr y3 → (0 ≤ wr y1 ∧ wr y1 < 64) ∧ (AW Γ l mX12_laysPairs (d + 1) b 9 [vR 171, vI (y1 + 1), vI y2, vI y3] [] (stt (upd2 g 189 (wr y1) y2)) K)) ∧ (¬ (wr (g 172 0) ≤ wr y3) → Ct Γ l d 0 yX12_pairedBy mX12_pairedBy [vR 171, vI y1, vI y3] (stt g) (bI (fun v1 g1 => AW Γ l mX12_laysPairs (d + 1) b 23 [vR 171, vI y1, vI (iMax y2 v1), vI (y3 + 1)] [] (stt g1) K) K))) : AW Γ l mX12_laysPairs (d + 1) b 23 [vR 171, vI y1, vI y2, vI y3] [] (stt g) K := by
  refine aw_iload_n (k' := 3) (by decide +kernel) rfl ?_
  refine aw_aload_n (k' := 0) (by decide +kernel) rfl ?_
  refine aw_callV (y := yX12_people) (M2 := mX12_people) (as := []) (S := [vI y3]) (t := 171) (d2 := d) (b2 := 0) (b3 := b) cwX12_people mlX12_87 imX12_people seX12_people (by decide +kernel) rfl (ci := 10) rfl (OB.at (ci := 10) (show shp 171 = (20, 0) by decide +kernel) (by decide)) (Nat.le_refl _) (Nat.le_of_eq (Nat.zero_add _)) rfl rfl (by simp [oneSlot]) (Nat.le_of_ble_eq_true rfl) (c_people ?_)
  show AW Γ l mX12_laysPairs (d + 1) b 28 [vR 171, vI y1, vI y2, vI y3] [vI (g 172 0), vI y3] (stt g) K
  refine ax_icmp_ge (off := 20) (tgt := 48) (x' := wr y3) (y' := wr (g 172 0)) (by decide +kernel) (by decide) rfl rfl (fun hc => ?_) (fun hc => ?_)
  · have hF := hF.1 hc
    refine aw_aload_n (k' := 0) (by decide +kernel) rfl ?_
    refine gfX12_70 rfl (by decide +kernel) (OB.at (ci := 10) (show shp 171 = (20, 0) by decide +kernel) (by decide)) ?_
    refine AW.topR (show RC 171 33 = 189 by decide +kernel) ?_
    refine aw_iload_n (k' := 1) (by decide +kernel) rfl ?_
    refine aw_iload_n (k' := 2) (by decide +kernel) rfl ?_
    refine ax_iast (i := wr y1) (by decide +kernel) (isA_lit (show shp 189 = (0, 64) by decide +kernel) (by decide)) rfl hF.1 ?_
    show AW Γ l mX12_laysPairs (d + 1) b 55 [vR 171, vI y1, vI y2, vI y3] [] (stt (upd2 g 189 (wr y1) y2)) K
    replace hF := hF.2
    refine aw_iinc (i := 1) (n := 1) (by decide +kernel) rfl (by decide) ?_
    show AW Γ l mX12_laysPairs (d + 1) b 58 [vR 171, vI (y1 + 1), vI y2, vI y3] [] (stt (upd2 g 189 (wr y1) y2)) K
    refine aw_goto (off := -49) (tgt := 9) (by decide +kernel) (by decide) ?_
    exact hF
  · have hF := hF.2 hc
    refine aw_iload_n (k' := 2) (by decide +kernel) rfl ?_
    refine aw_aload_n (k' := 0) (by decide +kernel) rfl ?_
    refine aw_iload_n (k' := 1) (by decide +kernel) rfl ?_
    refine aw_iload_n (k' := 3) (by decide +kernel) rfl ?_
    refine aw_callV (y := yX12_pairedBy) (M2 := mX12_pairedBy) (as := [vI y1, vI y3]) (S := [vI y2]) (t := 171) (d2 := d) (b2 := 0) (b3 := b) cwX12_pairedBy mlX12_477 imX12_pairedBy seX12_pairedBy (by decide +kernel) rfl (ci := 10) rfl (OB.at (ci := 10) (show shp 171 = (20, 0) by decide +kernel) (by decide)) (Nat.le_refl _) (Nat.le_of_eq (Nat.zero_add _)) rfl rfl (by simp [oneSlot]) (Nat.le_of_ble_eq_true rfl) (Ct.mono hF ?_)
    rintro o h' (⟨v1, g1, rfl, rfl, hG⟩ | ⟨E, g, rfl, rfl, hG⟩)
    · show AW Γ l mX12_laysPairs (d + 1) b 38 [vR 171, vI y1, vI y2, vI y3] [vI v1, vI y2] (stt g1) K
      refine aw_mmax (by decide +kernel) mlX12_327 stJ9_max_7cf53 cwM_init cwM_max (by simp [oneSlot]) (Nat.le_of_ble_eq_true rfl) ?_
      refine aw_istore_n (k' := 2) (by decide +kernel) (by decide) ?_
      show AW Γ l mX12_laysPairs (d + 1) b 42 [vR 171, vI y1, vI (iMax y2 v1), vI y3] [] (stt g1) K
      refine aw_iinc (i := 3) (n := 1) (by decide +kernel) rfl (by decide) ?_
      show AW Γ l mX12_laysPairs (d + 1) b 45 [vR 171, vI y1, vI (iMax y2 v1), vI (y3 + 1)] [] (stt g1) K
      refine aw_goto (off := -22) (tgt := 23) (by decide +kernel) (by decide) ?_
      exact hG
    · exact hG

set_option maxHeartbeats 1000000 in
theorem wpX12_pairs {Γ : Cfg} {l : Launch} {d b : Nat} {g : GG} {K : Ou → HP → Prop} {x1 : Int} (hF : (wr x1 = -1 → Ct Γ l (d + 1) 0 yX12_laysPairs mX12_laysPairs [vR 171] (stt (upd2 g 171 0 0)) (bV (fun g1 => (¬ wr x1 = -1 → AW Γ l mX12_pairs (d + 2) b 63 [vR 171, vI x1, vI ((iShl 1 (g1 172 0)) - 1), vI (-1), vI 0, vU, vU] [] (stt g1) K) ∧ (¬ (¬ wr x1 = -1) → (0 ≤ wr ((iShl 1 (g1 172 0)) - 1) ∧ wr ((iShl 1 (g1 172 0)) - 1) < 64) ∧ (K (.inl (vI (g1 189 (wr ((iShl 1 (g1 172 0)) - 1))))) (stt g1)))) K)) ∧ (¬ (wr x1 = -1) → (¬ (0 ≤ wr x1 ∧ wr x1 ≤ wr ((upd2 g 171 0 0) 172 0 - 1)) → K (.inl (vI 0)) (stt (upd2 (upd2 g 171 0 0) 171 0 1))) ∧ (¬ (¬ (0 ≤ wr x1 ∧ wr x1 ≤ wr ((upd2 g 171 0 0) 172 0 - 1))) → Ct Γ l (d + 1) 0 yX12_laysPairs mX12_laysPairs [vR 171] (stt (upd2 g 171 0 0)) (bV (fun g2 => (¬ wr x1 = -1 → AW Γ l mX12_pairs (d + 2) b 63 [vR 171, vI x1, vI ((iShl 1 (g2 172 0)) - 1), vI (-1), vI 0, vU, vU] [] (stt g2) K) ∧ (¬ (¬ wr x1 = -1) → (0 ≤ wr ((iShl 1 (g2 172 0)) - 1) ∧ wr ((iShl 1 (g2 172 0)) - 1) < 64) ∧ (K (.inl (vI (g2 189 (wr ((iShl 1 (g2 172 0)) - 1))))) (stt g2)))) K)))) : Ct Γ l (d + 2) b yX12_pairs mX12_pairs [vR 171, vI x1] (stt g) K := by
  refine Ct.enter (L := [vR 171, vI x1, vU, vU, vU, vU, vU]) rfl rfl rfl (by decide +kernel) (by simp [oneSlot]) (Nat.le_of_ble_eq_true rfl) rfl ?_
  refine aw_aload_n (k' := 0) (by decide +kernel) rfl ?_
  refine aw_iconst (n := 0) (by decide +kernel) ?_
  refine pfX12_3 rfl (by decide +kernel) (OB.at (ci := 10) (show shp 171 = (20, 0) by decide +kernel) (by decide)) ?_
  show AW Γ l mX12_pairs (d + 2) b 5 [vR 171, vI x1, vU, vU, vU, vU, vU] [] (stt (upd2 g 171 0 0)) K
  refine aw_aload_n (k' := 0) (by decide +kernel) rfl ?_
  refine aw_iload_n (k' := 1) (by decide +kernel) rfl ?_
  refine aw_iconst (n := -1) (by decide +kernel) ?_
  refine ax_icmp_eq (off := 15) (tgt := 23) (x' := wr x1) (y' := -1) (by decide +kernel) (by decide) rfl (by decide +kernel) (fun hc => ?_) (fun hc => ?_)
  · have hF := hF.1 hc
    refine aw_iconst (n := 0) (by decide +kernel) ?_
    refine aw_iconst (n := 1) (by decide +kernel) ?_
    refine aw_callV (y := yX12_throwsIf) (M2 := mX12_throwsIf) (as := [vI 0, vI 1]) (S := []) (t := 171) (d2 := (d + 1)) (b2 := 0) (b3 := b) cwX12_throwsIf mlX12_279 imX12_throwsIf seX12_throwsIf (by decide +kernel) rfl (ci := 10) rfl (OB.at (ci := 10) (show shp 171 = (20, 0) by decide +kernel) (by decide)) (Nat.le_refl _) (Nat.le_of_eq (Nat.zero_add _)) rfl rfl (by simp [oneSlot]) (Nat.le_of_ble_eq_true rfl) (c_throwsIf0 ?_)
    show AW Γ l mX12_pairs (d + 2) b 28 [vR 171, vI x1, vU, vU, vU, vU, vU] [vI 0] (stt (upd2 g 171 0 0)) K
    refine ax_if_eq (off := 5) (tgt := 33) (x' := 0) (by decide +kernel) (by decide) (by decide +kernel) (fun hc => ?_) (fun hc => absurd (by decide) hc)
    refine aw_aload_n (k' := 0) (by decide +kernel) rfl ?_
    refine aw_callV (y := yX12_laysPairs) (M2 := mX12_laysPairs) (as := []) (S := []) (t := 171) (d2 := (d + 1)) (b2 := 0) (b3 := b) cwX12_laysPairs mlX12_480 imX12_laysPairs seX12_laysPairs (by decide +kernel) rfl (ci := 10) rfl (OB.at (ci := 10) (show shp 171 = (20, 0) by decide +kernel) (by decide)) (Nat.le_refl _) (Nat.le_of_eq (Nat.zero_add _)) rfl rfl (by simp [oneSlot]) (Nat.le_of_ble_eq_true rfl) (Ct.mono hF ?_)
    rintro o h' (⟨g1, rfl, rfl, hG⟩ | ⟨E, g, rfl, rfl, hG⟩)
    · show AW Γ l mX12_pairs (d + 2) b 37 [vR 171, vI x1, vU, vU, vU, vU, vU] [] (stt g1) K
      refine aw_iconst (n := 1) (by decide +kernel) ?_
      refine aw_aload_n (k' := 0) (by decide +kernel) rfl ?_
      refine aw_callV (y := yX12_people) (M2 := mX12_people) (as := []) (S := [vI 1]) (t := 171) (d2 := (d + 1)) (b2 := 0) (b3 := b) cwX12_people mlX12_87 imX12_people seX12_people (by decide +kernel) rfl (ci := 10) rfl (OB.at (ci := 10) (show shp 171 = (20, 0) by decide +kernel) (by decide)) (Nat.le_refl _) (Nat.le_of_eq (Nat.zero_add _)) rfl rfl (by simp [oneSlot]) (Nat.le_of_ble_eq_true rfl) (c_people ?_)
      show AW Γ l mX12_pairs (d + 2) b 42 [vR 171, vI x1, vU, vU, vU, vU, vU] [vI (g1 172 0), vI 1] (stt g1) K
      refine aw_ishl (by decide +kernel) ?_
      refine aw_iconst (n := 1) (by decide +kernel) ?_
      refine aw_isub (by decide +kernel) ?_
      refine aw_istore_n (k' := 2) (by decide +kernel) (by decide) ?_
      show AW Γ l mX12_pairs (d + 2) b 46 [vR 171, vI x1, vI ((iShl 1 (g1 172 0)) - 1), vU, vU, vU, vU] [] (stt g1) K
      refine aw_iload_n (k' := 1) (by decide +kernel) rfl ?_
      refine aw_iconst (n := -1) (by decide +kernel) ?_
      refine ax_icmp_ne (off := 10) (tgt := 58) (x' := wr x1) (y' := -1) (by decide +kernel) (by decide) rfl (by decide +kernel) (fun hc => ?_) (fun hc => ?_)
      · have hG := hG.1 hc
        refine aw_iconst (n := -1) (by decide +kernel) ?_
        refine aw_istore_n (k' := 3) (by decide +kernel) (by decide) ?_
        show AW Γ l mX12_pairs (d + 2) b 60 [vR 171, vI x1, vI ((iShl 1 (g1 172 0)) - 1), vI (-1), vU, vU, vU] [] (stt g1) K
        refine aw_iconst (n := 0) (by decide +kernel) ?_
        refine aw_istore (i := 4) (by decide +kernel) (by decide) ?_
        show AW Γ l mX12_pairs (d + 2) b 63 [vR 171, vI x1, vI ((iShl 1 (g1 172 0)) - 1), vI (-1), vI 0, vU, vU] [] (stt g1) K
        exact hG
      · have hG := hG.2 hc
        refine aw_aload_n (k' := 0) (by decide +kernel) rfl ?_
        refine gfX12_70 rfl (by decide +kernel) (OB.at (ci := 10) (show shp 171 = (20, 0) by decide +kernel) (by decide)) ?_
        refine AW.topR (show RC 171 33 = 189 by decide +kernel) ?_
        refine aw_iload_n (k' := 2) (by decide +kernel) rfl ?_
        refine ax_iald (i := wr ((iShl 1 (g1 172 0)) - 1)) (by decide +kernel) (isA_lit (show shp 189 = (0, 64) by decide +kernel) (by decide)) rfl hG.1 ?_
        replace hG := hG.2
        exact aw_iret (by decide +kernel) rfl hG
    · exact hG
  · have hF := hF.2 hc
    refine aw_aload_n (k' := 0) (by decide +kernel) rfl ?_
    refine aw_iload_n (k' := 1) (by decide +kernel) rfl ?_
    refine aw_callV (y := yX12_noPerson) (M2 := mX12_noPerson) (as := [vI x1]) (S := [vR 171]) (t := 171) (d2 := (d + 1)) (b2 := 0) (b3 := b) cwX12_noPerson mlX12_386 imX12_noPerson seX12_noPerson (by decide +kernel) rfl (ci := 10) rfl (OB.at (ci := 10) (show shp 171 = (20, 0) by decide +kernel) (by decide)) (Nat.le_refl _) (Nat.le_of_eq (Nat.zero_add _)) rfl rfl (by simp [oneSlot]) (Nat.le_of_ble_eq_true rfl) (c_noPerson (fun hc => ?_) (fun hc => ?_))
    · have hF := hF.1 hc
      show AW Γ l mX12_pairs (d + 2) b 16 [vR 171, vI x1, vU, vU, vU, vU, vU] [vI 1, vR 171] (stt (upd2 g 171 0 0)) K
      refine ax_if_eq (off := 7) (tgt := 23) (x' := 1) (by decide +kernel) (by decide) (by decide +kernel) (fun hc => absurd hc (by decide)) (fun hc => ?_)
      refine aw_iconst (n := 1) (by decide +kernel) ?_
      refine aw_goto (off := 4) (tgt := 24) (by decide +kernel) (by decide) ?_
      refine aw_iconst (n := 1) (by decide +kernel) ?_
      refine aw_callV (y := yX12_throwsIf) (M2 := mX12_throwsIf) (as := [vI 1, vI 1]) (S := []) (t := 171) (d2 := (d + 1)) (b2 := 0) (b3 := b) cwX12_throwsIf mlX12_279 imX12_throwsIf seX12_throwsIf (by decide +kernel) rfl (ci := 10) rfl (OB.at (ci := 10) (show shp 171 = (20, 0) by decide +kernel) (by decide)) (Nat.le_refl _) (Nat.le_of_eq (Nat.zero_add _)) rfl rfl (by simp [oneSlot]) (Nat.le_of_ble_eq_true rfl) (c_throwsIf1 ?_)
      show AW Γ l mX12_pairs (d + 2) b 28 [vR 171, vI x1, vU, vU, vU, vU, vU] [vI 1] (stt (upd2 (upd2 g 171 0 0) 171 0 1)) K
      refine ax_if_eq (off := 5) (tgt := 33) (x' := 1) (by decide +kernel) (by decide) (by decide +kernel) (fun hc => absurd hc (by decide)) (fun hc => ?_)
      refine aw_iconst (n := 0) (by decide +kernel) ?_
      exact aw_iret (by decide +kernel) rfl hF
    · have hF := hF.2 hc
      show AW Γ l mX12_pairs (d + 2) b 16 [vR 171, vI x1, vU, vU, vU, vU, vU] [vI 0, vR 171] (stt (upd2 g 171 0 0)) K
      refine ax_if_eq (off := 7) (tgt := 23) (x' := 0) (by decide +kernel) (by decide) (by decide +kernel) (fun hc => ?_) (fun hc => absurd (by decide) hc)
      refine aw_iconst (n := 0) (by decide +kernel) ?_
      refine aw_iconst (n := 1) (by decide +kernel) ?_
      refine aw_callV (y := yX12_throwsIf) (M2 := mX12_throwsIf) (as := [vI 0, vI 1]) (S := []) (t := 171) (d2 := (d + 1)) (b2 := 0) (b3 := b) cwX12_throwsIf mlX12_279 imX12_throwsIf seX12_throwsIf (by decide +kernel) rfl (ci := 10) rfl (OB.at (ci := 10) (show shp 171 = (20, 0) by decide +kernel) (by decide)) (Nat.le_refl _) (Nat.le_of_eq (Nat.zero_add _)) rfl rfl (by simp [oneSlot]) (Nat.le_of_ble_eq_true rfl) (c_throwsIf0 ?_)
      show AW Γ l mX12_pairs (d + 2) b 28 [vR 171, vI x1, vU, vU, vU, vU, vU] [vI 0] (stt (upd2 g 171 0 0)) K
      refine ax_if_eq (off := 5) (tgt := 33) (x' := 0) (by decide +kernel) (by decide) (by decide +kernel) (fun hc => ?_) (fun hc => absurd (by decide) hc)
      refine aw_aload_n (k' := 0) (by decide +kernel) rfl ?_
      refine aw_callV (y := yX12_laysPairs) (M2 := mX12_laysPairs) (as := []) (S := []) (t := 171) (d2 := (d + 1)) (b2 := 0) (b3 := b) cwX12_laysPairs mlX12_480 imX12_laysPairs seX12_laysPairs (by decide +kernel) rfl (ci := 10) rfl (OB.at (ci := 10) (show shp 171 = (20, 0) by decide +kernel) (by decide)) (Nat.le_refl _) (Nat.le_of_eq (Nat.zero_add _)) rfl rfl (by simp [oneSlot]) (Nat.le_of_ble_eq_true rfl) (Ct.mono hF ?_)
      rintro o h' (⟨g2, rfl, rfl, hG⟩ | ⟨E, g, rfl, rfl, hG⟩)
      · show AW Γ l mX12_pairs (d + 2) b 37 [vR 171, vI x1, vU, vU, vU, vU, vU] [] (stt g2) K
        refine aw_iconst (n := 1) (by decide +kernel) ?_
        refine aw_aload_n (k' := 0) (by decide +kernel) rfl ?_
        refine aw_callV (y := yX12_people) (M2 := mX12_people) (as := []) (S := [vI 1]) (t := 171) (d2 := (d + 1)) (b2 := 0) (b3 := b) cwX12_people mlX12_87 imX12_people seX12_people (by decide +kernel) rfl (ci := 10) rfl (OB.at (ci := 10) (show shp 171 = (20, 0) by decide +kernel) (by decide)) (Nat.le_refl _) (Nat.le_of_eq (Nat.zero_add _)) rfl rfl (by simp [oneSlot]) (Nat.le_of_ble_eq_true rfl) (c_people ?_)
        show AW Γ l mX12_pairs (d + 2) b 42 [vR 171, vI x1, vU, vU, vU, vU, vU] [vI (g2 172 0), vI 1] (stt g2) K
        refine aw_ishl (by decide +kernel) ?_
        refine aw_iconst (n := 1) (by decide +kernel) ?_
        refine aw_isub (by decide +kernel) ?_
        refine aw_istore_n (k' := 2) (by decide +kernel) (by decide) ?_
        show AW Γ l mX12_pairs (d + 2) b 46 [vR 171, vI x1, vI ((iShl 1 (g2 172 0)) - 1), vU, vU, vU, vU] [] (stt g2) K
        refine aw_iload_n (k' := 1) (by decide +kernel) rfl ?_
        refine aw_iconst (n := -1) (by decide +kernel) ?_
        refine ax_icmp_ne (off := 10) (tgt := 58) (x' := wr x1) (y' := -1) (by decide +kernel) (by decide) rfl (by decide +kernel) (fun hc => ?_) (fun hc => ?_)
        · have hG := hG.1 hc
          refine aw_iconst (n := -1) (by decide +kernel) ?_
          refine aw_istore_n (k' := 3) (by decide +kernel) (by decide) ?_
          show AW Γ l mX12_pairs (d + 2) b 60 [vR 171, vI x1, vI ((iShl 1 (g2 172 0)) - 1), vI (-1), vU, vU, vU] [] (stt g2) K
          refine aw_iconst (n := 0) (by decide +kernel) ?_
          refine aw_istore (i := 4) (by decide +kernel) (by decide) ?_
          show AW Γ l mX12_pairs (d + 2) b 63 [vR 171, vI x1, vI ((iShl 1 (g2 172 0)) - 1), vI (-1), vI 0, vU, vU] [] (stt g2) K
          exact hG
        · have hG := hG.2 hc
          refine aw_aload_n (k' := 0) (by decide +kernel) rfl ?_
          refine gfX12_70 rfl (by decide +kernel) (OB.at (ci := 10) (show shp 171 = (20, 0) by decide +kernel) (by decide)) ?_
          refine AW.topR (show RC 171 33 = 189 by decide +kernel) ?_
          refine aw_iload_n (k' := 2) (by decide +kernel) rfl ?_
          refine ax_iald (i := wr ((iShl 1 (g2 172 0)) - 1)) (by decide +kernel) (isA_lit (show shp 189 = (0, 64) by decide +kernel) (by decide)) rfl hG.1 ?_
          replace hG := hG.2
          exact aw_iret (by decide +kernel) rfl hG
      · exact hG
set_option maxHeartbeats 1000000 in
theorem wpX12_pairs_63 {Γ : Cfg} {l : Launch} {d b : Nat} {g : GG} {K : Ou → HP → Prop} {x1 : Int} {y2 : Int} {y3 : Int} {y4 : Int} (hF : (¬ wr y4 = 0 → K (.inl (vI y3)) (stt g)) ∧ (¬ (¬ wr y4 = 0) → Ct Γ l (d + 1) 0 yX12_firstOf mX12_firstOf [vI y2] (stt g) (bI (fun v1 g1 => AW Γ l mX12_pairs (d + 2) b 77 [vR 171, vI x1, vI y2, vI y3, vI y4, vI v1, vI (-1)] [] (stt g1) K) K))) : AW Γ l mX12_pairs (d + 2) b 63 [vR 171, vI x1, vI y2, vI y3, vI y4, vU, vU] [] (stt g) K := by
  refine aw_iload (i := 4) (by decide +kernel) rfl ?_
  refine ax_if_ne (off := 98) (tgt := 163) (x' := wr y4) (by decide +kernel) (by decide) rfl (fun hc => ?_) (fun hc => ?_)
  · have hF := hF.1 hc
    refine aw_iload_n (k' := 3) (by decide +kernel) rfl ?_
    exact aw_iret (by decide +kernel) rfl hF
  · have hF := hF.2 hc
    refine aw_iload_n (k' := 2) (by decide +kernel) rfl ?_
    refine aw_callS (y := yX12_firstOf) (M2 := mX12_firstOf) (as := [vI y2]) (S := []) (d2 := (d + 1)) (b2 := 0) (b3 := b) cwX12_firstOf mlX12_462 stX12_firstOf (by decide +kernel) rfl (Nat.le_refl _) (Nat.le_of_eq (Nat.zero_add _)) rfl rfl (by simp [oneSlot]) (Nat.le_of_ble_eq_true rfl) (Ct.mono hF ?_)
    rintro o h' (⟨v1, g1, rfl, rfl, hG⟩ | ⟨E, g, rfl, rfl, hG⟩)
    · show AW Γ l mX12_pairs (d + 2) b 72 [vR 171, vI x1, vI y2, vI y3, vI y4, vU, vU] [vI v1] (stt g1) K
      refine aw_istore (i := 5) (by decide +kernel) (by decide) ?_
      show AW Γ l mX12_pairs (d + 2) b 74 [vR 171, vI x1, vI y2, vI y3, vI y4, vI v1, vU] [] (stt g1) K
      refine aw_iconst (n := -1) (by decide +kernel) ?_
      refine aw_istore (i := 6) (by decide +kernel) (by decide) ?_
      show AW Γ l mX12_pairs (d + 2) b 77 [vR 171, vI x1, vI y2, vI y3, vI y4, vI v1, vI (-1)] [] (stt g1) K
      exact hG
    · exact hG
set_option maxHeartbeats 1000000 in
theorem wpX12_pairs_77 {Γ : Cfg} {l : Launch} {d b : Nat} {g : GG} {K : Ou → HP → Prop} {x1 : Int} {y2 : Int} {y3 : Int} {y4 : Int} {y5 : Int} {y6 : Int} (hF : Ct Γ l (d + 1) 0 yX12_pairedBy mX12_pairedBy [vR 171, vI y2, vI y6] (stt g) (bI (fun v1 g1 => (0 ≤ wr y2 ∧ wr y2 < 64) ∧ ((wr v1 = wr (g1 189 (wr y2)) → (wr y5 = wr x1 → (¬ wr y5 = wr x1 → (¬ wr y6 = -1 → AW Γ l mX12_pairs (d + 2) b 63 [vR 171, vI x1, vI (iAnd (iAnd y2 (iXor (iShl 1 y5) (-1))) (iXor (iShl 1 y6) (-1))), vI y5, vI 1, vI y5, vI y6] [] (stt g1) K) ∧ (¬ (¬ wr y6 = -1) → AW Γ l mX12_pairs (d + 2) b 63 [vR 171, vI x1, vI (iAnd y2 (iXor (iShl 1 y5) (-1))), vI y5, vI 1, vI y5, vI y6] [] (stt g1) K)) ∧ (¬ (¬ wr y5 = wr x1) → (¬ wr y6 = -1 → AW Γ l mX12_pairs (d + 2) b 63 [vR 171, vI x1, vI (iAnd (iAnd y2 (iXor (iShl 1 y5) (-1))) (iXor (iShl 1 y6) (-1))), vI y6, vI 1, vI y5, vI y6] [] (stt g1) K) ∧ (¬ (¬ wr y6 = -1) → AW Γ l mX12_pairs (d + 2) b 63 [vR 171, vI x1, vI (iAnd y2 (iXor (iShl 1 y5) (-1))), vI y6, vI 1, vI y5, vI y6] [] (stt g1) K))) ∧ (¬ (wr y5 = wr x1) → (¬ wr y6 = wr x1 → (¬ wr y5 = wr x1 → (¬ wr y6 = -1 → AW Γ l mX12_pairs (d + 2) b 63 [vR 171, vI x1, vI (iAnd (iAnd y2 (iXor (iShl 1 y5) (-1))) (iXor (iShl 1 y6) (-1))), vI y5, vI 0, vI y5, vI y6] [] (stt g1) K) ∧ (¬ (¬ wr y6 = -1) → AW Γ l mX12_pairs (d + 2) b 63 [vR 171, vI x1, vI (iAnd y2 (iXor (iShl 1 y5) (-1))), vI y5, vI 0, vI y5, vI y6] [] (stt g1) K)) ∧ (¬ (¬ wr y5 = wr x1) → (¬ wr y6 = -1 → AW Γ l mX12_pairs (d + 2) b 63 [vR 171, vI x1, vI (iAnd (iAnd y2 (iXor (iShl 1 y5) (-1))) (iXor (iShl 1 y6) (-1))), vI y6, vI 0, vI y5, vI y6] [] (stt g1) K) ∧ (¬ (¬ wr y6 = -1) → AW Γ l mX12_pairs (d + 2) b 63 [vR 171, vI x1, vI (iAnd y2 (iXor (iShl 1 y5) (-1))), vI y6, vI 0, vI y5, vI y6] [] (stt g1) K))) ∧ (¬ (¬ wr y6 = wr x1) → (¬ wr y5 = wr x1 → (¬ wr y6 = -1 → AW Γ l mX12_pairs (d + 2) b 63 [vR 171, vI x1, vI (iAnd (iAnd y2 (iXor (iShl 1 y5) (-1))) (iXor (iShl 1 y6) (-1))), vI y5, vI 1, vI y5, vI y6] [] (stt g1) K) ∧ (¬ (¬ wr y6 = -1) → AW Γ l mX12_pairs (d + 2) b 63 [vR 171, vI x1, vI (iAnd y2 (iXor (iShl 1 y5) (-1))), vI y5, vI 1, vI y5, vI y6] [] (stt g1) K)) ∧ (¬ (¬ wr y5 = wr x1) → (¬ wr y6 = -1 → AW Γ l mX12_pairs (d + 2) b 63 [vR 171, vI x1, vI (iAnd (iAnd y2 (iXor (iShl 1 y5) (-1))) (iXor (iShl 1 y6) (-1))), vI y6, vI 1, vI y5, vI y6] [] (stt g1) K) ∧ (¬ (¬ wr y6 = -1) → AW Γ l mX12_pairs (d + 2) b 63 [vR 171, vI x1, vI (iAnd y2 (iXor (iShl 1 y5) (-1))), vI y6, vI 1, vI y5, vI y6] [] (stt g1) K))))) ∧ (¬ (wr v1 = wr (g1 189 (wr y2))) → AW Γ l mX12_pairs (d + 2) b 77 [vR 171, vI x1, vI y2, vI y3, vI y4, vI y5, vI (y6 + 1)] [] (stt g1) K))) K)) : AW Γ l mX12_pairs (d + 2) b 77 [vR 171, vI x1, vI y2, vI y3, vI y4, vI y5, vI y6] [] (stt g) K := by
  refine aw_aload_n (k' := 0) (by decide +kernel) rfl ?_
  refine aw_iload_n (k' := 2) (by decide +kernel) rfl ?_
  refine aw_iload (i := 6) (by decide +kernel) rfl ?_
  refine aw_callV (y := yX12_pairedBy) (M2 := mX12_pairedBy) (as := [vI y2, vI y6]) (S := []) (t := 171) (d2 := (d + 1)) (b2 := 0) (b3 := b) cwX12_pairedBy mlX12_477 imX12_pairedBy seX12_pairedBy (by decide +kernel) rfl (ci := 10) rfl (OB.at (ci := 10) (show shp 171 = (20, 0) by decide +kernel) (by decide)) (Nat.le_refl _) (Nat.le_of_eq (Nat.zero_add _)) rfl rfl (by simp [oneSlot]) (Nat.le_of_ble_eq_true rfl) (Ct.mono hF ?_)
  rintro o h' (⟨v1, g1, rfl, rfl, hG⟩ | ⟨E, g, rfl, rfl, hG⟩)
  · show AW Γ l mX12_pairs (d + 2) b 84 [vR 171, vI x1, vI y2, vI y3, vI y4, vI y5, vI y6] [vI v1] (stt g1) K
    refine aw_aload_n (k' := 0) (by decide +kernel) rfl ?_
    refine gfX12_70 rfl (by decide +kernel) (OB.at (ci := 10) (show shp 171 = (20, 0) by decide +kernel) (by decide)) ?_
    refine AW.topR (show RC 171 33 = 189 by decide +kernel) ?_
    refine aw_iload_n (k' := 2) (by decide +kernel) rfl ?_
    refine ax_iald (i := wr y2) (by decide +kernel) (isA_lit (show shp 189 = (0, 64) by decide +kernel) (by decide)) rfl hG.1 ?_
    replace hG := hG.2
    refine ax_icmp_eq (off := 9) (tgt := 99) (x' := wr v1) (y' := wr (g1 189 (wr y2))) (by decide +kernel) (by decide) rfl rfl (fun hc => ?_) (fun hc => ?_)
    · have hG := hG.1 hc
      refine aw_iload (i := 5) (by decide +kernel) rfl ?_
      refine aw_iload_n (k' := 1) (by decide +kernel) rfl ?_
      refine ax_icmp_eq (off := 9) (tgt := 111) (x' := wr y5) (y' := wr x1) (by decide +kernel) (by decide) rfl rfl (fun hc => ?_) (fun hc => ?_)
      · have hG := hG.1 hc
        refine aw_iconst (n := 1) (by decide +kernel) ?_
        refine aw_goto (off := 4) (tgt := 116) (by decide +kernel) (by decide) ?_
        refine aw_istore (i := 4) (by decide +kernel) (by decide) ?_
        show AW Γ l mX12_pairs (d + 2) b 118 [vR 171, vI x1, vI y2, vI y3, vI 1, vI y5, vI y6] [] (stt g1) K
        refine aw_iload (i := 5) (by decide +kernel) rfl ?_
        refine aw_iload_n (k' := 1) (by decide +kernel) rfl ?_
        refine ax_icmp_ne (off := 8) (tgt := 129) (x' := wr y5) (y' := wr x1) (by decide +kernel) (by decide) rfl rfl (fun hc => ?_) (fun hc => ?_)
        · have hG := hG.1 hc
          refine aw_iload (i := 5) (by decide +kernel) rfl ?_
          refine aw_istore_n (k' := 3) (by decide +kernel) (by decide) ?_
          show AW Γ l mX12_pairs (d + 2) b 132 [vR 171, vI x1, vI y2, vI y5, vI 1, vI y5, vI y6] [] (stt g1) K
          refine aw_iload_n (k' := 2) (by decide +kernel) rfl ?_
          refine aw_iconst (n := 1) (by decide +kernel) ?_
          refine aw_iload (i := 5) (by decide +kernel) rfl ?_
          refine aw_ishl (by decide +kernel) ?_
          refine aw_iconst (n := -1) (by decide +kernel) ?_
          refine aw_ixor (by decide +kernel) ?_
          refine aw_iand (by decide +kernel) ?_
          refine aw_istore_n (k' := 2) (by decide +kernel) (by decide) ?_
          show AW Γ l mX12_pairs (d + 2) b 141 [vR 171, vI x1, vI (iAnd y2 (iXor (iShl 1 y5) (-1))), vI y5, vI 1, vI y5, vI y6] [] (stt g1) K
          refine aw_iload (i := 6) (by decide +kernel) rfl ?_
          refine aw_iconst (n := -1) (by decide +kernel) ?_
          refine ax_icmp_ne (off := 7) (tgt := 151) (x' := wr y6) (y' := -1) (by decide +kernel) (by decide) rfl (by decide +kernel) (fun hc => ?_) (fun hc => ?_)
          · have hG := hG.1 hc
            refine aw_iload_n (k' := 2) (by decide +kernel) rfl ?_
            refine aw_iconst (n := 1) (by decide +kernel) ?_
            refine aw_iload (i := 6) (by decide +kernel) rfl ?_
            refine aw_ishl (by decide +kernel) ?_
            refine aw_iconst (n := -1) (by decide +kernel) ?_
            refine aw_ixor (by decide +kernel) ?_
            refine aw_iand (by decide +kernel) ?_
            refine aw_istore_n (k' := 2) (by decide +kernel) (by decide) ?_
            show AW Γ l mX12_pairs (d + 2) b 160 [vR 171, vI x1, vI (iAnd (iAnd y2 (iXor (iShl 1 y5) (-1))) (iXor (iShl 1 y6) (-1))), vI y5, vI 1, vI y5, vI y6] [] (stt g1) K
            refine aw_goto (off := -97) (tgt := 63) (by decide +kernel) (by decide) ?_
            exact hG
          · have hG := hG.2 hc
            refine aw_iload_n (k' := 2) (by decide +kernel) rfl ?_
            refine aw_goto (off := 11) (tgt := 159) (by decide +kernel) (by decide) ?_
            refine aw_istore_n (k' := 2) (by decide +kernel) (by decide) ?_
            show AW Γ l mX12_pairs (d + 2) b 160 [vR 171, vI x1, vI (iAnd y2 (iXor (iShl 1 y5) (-1))), vI y5, vI 1, vI y5, vI y6] [] (stt g1) K
            refine aw_goto (off := -97) (tgt := 63) (by decide +kernel) (by decide) ?_
            exact hG
        · have hG := hG.2 hc
          refine aw_iload (i := 6) (by decide +kernel) rfl ?_
          refine aw_goto (off := 5) (tgt := 131) (by decide +kernel) (by decide) ?_
          refine aw_istore_n (k' := 3) (by decide +kernel) (by decide) ?_
          show AW Γ l mX12_pairs (d + 2) b 132 [vR 171, vI x1, vI y2, vI y6, vI 1, vI y5, vI y6] [] (stt g1) K
          refine aw_iload_n (k' := 2) (by decide +kernel) rfl ?_
          refine aw_iconst (n := 1) (by decide +kernel) ?_
          refine aw_iload (i := 5) (by decide +kernel) rfl ?_
          refine aw_ishl (by decide +kernel) ?_
          refine aw_iconst (n := -1) (by decide +kernel) ?_
          refine aw_ixor (by decide +kernel) ?_
          refine aw_iand (by decide +kernel) ?_
          refine aw_istore_n (k' := 2) (by decide +kernel) (by decide) ?_
          show AW Γ l mX12_pairs (d + 2) b 141 [vR 171, vI x1, vI (iAnd y2 (iXor (iShl 1 y5) (-1))), vI y6, vI 1, vI y5, vI y6] [] (stt g1) K
          refine aw_iload (i := 6) (by decide +kernel) rfl ?_
          refine aw_iconst (n := -1) (by decide +kernel) ?_
          refine ax_icmp_ne (off := 7) (tgt := 151) (x' := wr y6) (y' := -1) (by decide +kernel) (by decide) rfl (by decide +kernel) (fun hc => ?_) (fun hc => ?_)
          · have hG := hG.1 hc
            refine aw_iload_n (k' := 2) (by decide +kernel) rfl ?_
            refine aw_iconst (n := 1) (by decide +kernel) ?_
            refine aw_iload (i := 6) (by decide +kernel) rfl ?_
            refine aw_ishl (by decide +kernel) ?_
            refine aw_iconst (n := -1) (by decide +kernel) ?_
            refine aw_ixor (by decide +kernel) ?_
            refine aw_iand (by decide +kernel) ?_
            refine aw_istore_n (k' := 2) (by decide +kernel) (by decide) ?_
            show AW Γ l mX12_pairs (d + 2) b 160 [vR 171, vI x1, vI (iAnd (iAnd y2 (iXor (iShl 1 y5) (-1))) (iXor (iShl 1 y6) (-1))), vI y6, vI 1, vI y5, vI y6] [] (stt g1) K
            refine aw_goto (off := -97) (tgt := 63) (by decide +kernel) (by decide) ?_
            exact hG
          · have hG := hG.2 hc
            refine aw_iload_n (k' := 2) (by decide +kernel) rfl ?_
            refine aw_goto (off := 11) (tgt := 159) (by decide +kernel) (by decide) ?_
            refine aw_istore_n (k' := 2) (by decide +kernel) (by decide) ?_
            show AW Γ l mX12_pairs (d + 2) b 160 [vR 171, vI x1, vI (iAnd y2 (iXor (iShl 1 y5) (-1))), vI y6, vI 1, vI y5, vI y6] [] (stt g1) K
            refine aw_goto (off := -97) (tgt := 63) (by decide +kernel) (by decide) ?_
            exact hG
      · have hG := hG.2 hc
        refine aw_iload (i := 6) (by decide +kernel) rfl ?_
        refine aw_iload_n (k' := 1) (by decide +kernel) rfl ?_
        refine ax_icmp_ne (off := 7) (tgt := 115) (x' := wr y6) (y' := wr x1) (by decide +kernel) (by decide) rfl rfl (fun hc => ?_) (fun hc => ?_)
        · have hG := hG.1 hc
          refine aw_iconst (n := 0) (by decide +kernel) ?_
          refine aw_istore (i := 4) (by decide +kernel) (by decide) ?_
          show AW Γ l mX12_pairs (d + 2) b 118 [vR 171, vI x1, vI y2, vI y3, vI 0, vI y5, vI y6] [] (stt g1) K
          refine aw_iload (i := 5) (by decide +kernel) rfl ?_
          refine aw_iload_n (k' := 1) (by decide +kernel) rfl ?_
          refine ax_icmp_ne (off := 8) (tgt := 129) (x' := wr y5) (y' := wr x1) (by decide +kernel) (by decide) rfl rfl (fun hc => ?_) (fun hc => ?_)
          · have hG := hG.1 hc
            refine aw_iload (i := 5) (by decide +kernel) rfl ?_
            refine aw_istore_n (k' := 3) (by decide +kernel) (by decide) ?_
            show AW Γ l mX12_pairs (d + 2) b 132 [vR 171, vI x1, vI y2, vI y5, vI 0, vI y5, vI y6] [] (stt g1) K
            refine aw_iload_n (k' := 2) (by decide +kernel) rfl ?_
            refine aw_iconst (n := 1) (by decide +kernel) ?_
            refine aw_iload (i := 5) (by decide +kernel) rfl ?_
            refine aw_ishl (by decide +kernel) ?_
            refine aw_iconst (n := -1) (by decide +kernel) ?_
            refine aw_ixor (by decide +kernel) ?_
            refine aw_iand (by decide +kernel) ?_
            refine aw_istore_n (k' := 2) (by decide +kernel) (by decide) ?_
            show AW Γ l mX12_pairs (d + 2) b 141 [vR 171, vI x1, vI (iAnd y2 (iXor (iShl 1 y5) (-1))), vI y5, vI 0, vI y5, vI y6] [] (stt g1) K
            refine aw_iload (i := 6) (by decide +kernel) rfl ?_
            refine aw_iconst (n := -1) (by decide +kernel) ?_
            refine ax_icmp_ne (off := 7) (tgt := 151) (x' := wr y6) (y' := -1) (by decide +kernel) (by decide) rfl (by decide +kernel) (fun hc => ?_) (fun hc => ?_)
            · have hG := hG.1 hc
              refine aw_iload_n (k' := 2) (by decide +kernel) rfl ?_
              refine aw_iconst (n := 1) (by decide +kernel) ?_
              refine aw_iload (i := 6) (by decide +kernel) rfl ?_
              refine aw_ishl (by decide +kernel) ?_
              refine aw_iconst (n := -1) (by decide +kernel) ?_
              refine aw_ixor (by decide +kernel) ?_
              refine aw_iand (by decide +kernel) ?_
              refine aw_istore_n (k' := 2) (by decide +kernel) (by decide) ?_
              show AW Γ l mX12_pairs (d + 2) b 160 [vR 171, vI x1, vI (iAnd (iAnd y2 (iXor (iShl 1 y5) (-1))) (iXor (iShl 1 y6) (-1))), vI y5, vI 0, vI y5, vI y6] [] (stt g1) K
              refine aw_goto (off := -97) (tgt := 63) (by decide +kernel) (by decide) ?_
              exact hG
            · have hG := hG.2 hc
              refine aw_iload_n (k' := 2) (by decide +kernel) rfl ?_
              refine aw_goto (off := 11) (tgt := 159) (by decide +kernel) (by decide) ?_
              refine aw_istore_n (k' := 2) (by decide +kernel) (by decide) ?_
              show AW Γ l mX12_pairs (d + 2) b 160 [vR 171, vI x1, vI (iAnd y2 (iXor (iShl 1 y5) (-1))), vI y5, vI 0, vI y5, vI y6] [] (stt g1) K
              refine aw_goto (off := -97) (tgt := 63) (by decide +kernel) (by decide) ?_
              exact hG
          · have hG := hG.2 hc
            refine aw_iload (i := 6) (by decide +kernel) rfl ?_
            refine aw_goto (off := 5) (tgt := 131) (by decide +kernel) (by decide) ?_
            refine aw_istore_n (k' := 3) (by decide +kernel) (by decide) ?_
            show AW Γ l mX12_pairs (d + 2) b 132 [vR 171, vI x1, vI y2, vI y6, vI 0, vI y5, vI y6] [] (stt g1) K
            refine aw_iload_n (k' := 2) (by decide +kernel) rfl ?_
            refine aw_iconst (n := 1) (by decide +kernel) ?_
            refine aw_iload (i := 5) (by decide +kernel) rfl ?_
            refine aw_ishl (by decide +kernel) ?_
            refine aw_iconst (n := -1) (by decide +kernel) ?_
            refine aw_ixor (by decide +kernel) ?_
            refine aw_iand (by decide +kernel) ?_
            refine aw_istore_n (k' := 2) (by decide +kernel) (by decide) ?_
            show AW Γ l mX12_pairs (d + 2) b 141 [vR 171, vI x1, vI (iAnd y2 (iXor (iShl 1 y5) (-1))), vI y6, vI 0, vI y5, vI y6] [] (stt g1) K
            refine aw_iload (i := 6) (by decide +kernel) rfl ?_
            refine aw_iconst (n := -1) (by decide +kernel) ?_
            refine ax_icmp_ne (off := 7) (tgt := 151) (x' := wr y6) (y' := -1) (by decide +kernel) (by decide) rfl (by decide +kernel) (fun hc => ?_) (fun hc => ?_)
            · have hG := hG.1 hc
              refine aw_iload_n (k' := 2) (by decide +kernel) rfl ?_
              refine aw_iconst (n := 1) (by decide +kernel) ?_
              refine aw_iload (i := 6) (by decide +kernel) rfl ?_
              refine aw_ishl (by decide +kernel) ?_
              refine aw_iconst (n := -1) (by decide +kernel) ?_
              refine aw_ixor (by decide +kernel) ?_
              refine aw_iand (by decide +kernel) ?_
              refine aw_istore_n (k' := 2) (by decide +kernel) (by decide) ?_
              show AW Γ l mX12_pairs (d + 2) b 160 [vR 171, vI x1, vI (iAnd (iAnd y2 (iXor (iShl 1 y5) (-1))) (iXor (iShl 1 y6) (-1))), vI y6, vI 0, vI y5, vI y6] [] (stt g1) K
              refine aw_goto (off := -97) (tgt := 63) (by decide +kernel) (by decide) ?_
              exact hG
            · have hG := hG.2 hc
              refine aw_iload_n (k' := 2) (by decide +kernel) rfl ?_
              refine aw_goto (off := 11) (tgt := 159) (by decide +kernel) (by decide) ?_
              refine aw_istore_n (k' := 2) (by decide +kernel) (by decide) ?_
              show AW Γ l mX12_pairs (d + 2) b 160 [vR 171, vI x1, vI (iAnd y2 (iXor (iShl 1 y5) (-1))), vI y6, vI 0, vI y5, vI y6] [] (stt g1) K
              refine aw_goto (off := -97) (tgt := 63) (by decide +kernel) (by decide) ?_
              exact hG
        · have hG := hG.2 hc
          refine aw_iconst (n := 1) (by decide +kernel) ?_
          refine aw_goto (off := 4) (tgt := 116) (by decide +kernel) (by decide) ?_
          refine aw_istore (i := 4) (by decide +kernel) (by decide) ?_
          show AW Γ l mX12_pairs (d + 2) b 118 [vR 171, vI x1, vI y2, vI y3, vI 1, vI y5, vI y6] [] (stt g1) K
          refine aw_iload (i := 5) (by decide +kernel) rfl ?_
          refine aw_iload_n (k' := 1) (by decide +kernel) rfl ?_
          refine ax_icmp_ne (off := 8) (tgt := 129) (x' := wr y5) (y' := wr x1) (by decide +kernel) (by decide) rfl rfl (fun hc => ?_) (fun hc => ?_)
          · have hG := hG.1 hc
            refine aw_iload (i := 5) (by decide +kernel) rfl ?_
            refine aw_istore_n (k' := 3) (by decide +kernel) (by decide) ?_
            show AW Γ l mX12_pairs (d + 2) b 132 [vR 171, vI x1, vI y2, vI y5, vI 1, vI y5, vI y6] [] (stt g1) K
            refine aw_iload_n (k' := 2) (by decide +kernel) rfl ?_
            refine aw_iconst (n := 1) (by decide +kernel) ?_
            refine aw_iload (i := 5) (by decide +kernel) rfl ?_
            refine aw_ishl (by decide +kernel) ?_
            refine aw_iconst (n := -1) (by decide +kernel) ?_
            refine aw_ixor (by decide +kernel) ?_
            refine aw_iand (by decide +kernel) ?_
            refine aw_istore_n (k' := 2) (by decide +kernel) (by decide) ?_
            show AW Γ l mX12_pairs (d + 2) b 141 [vR 171, vI x1, vI (iAnd y2 (iXor (iShl 1 y5) (-1))), vI y5, vI 1, vI y5, vI y6] [] (stt g1) K
            refine aw_iload (i := 6) (by decide +kernel) rfl ?_
            refine aw_iconst (n := -1) (by decide +kernel) ?_
            refine ax_icmp_ne (off := 7) (tgt := 151) (x' := wr y6) (y' := -1) (by decide +kernel) (by decide) rfl (by decide +kernel) (fun hc => ?_) (fun hc => ?_)
            · have hG := hG.1 hc
              refine aw_iload_n (k' := 2) (by decide +kernel) rfl ?_
              refine aw_iconst (n := 1) (by decide +kernel) ?_
              refine aw_iload (i := 6) (by decide +kernel) rfl ?_
              refine aw_ishl (by decide +kernel) ?_
              refine aw_iconst (n := -1) (by decide +kernel) ?_
              refine aw_ixor (by decide +kernel) ?_
              refine aw_iand (by decide +kernel) ?_
              refine aw_istore_n (k' := 2) (by decide +kernel) (by decide) ?_
              show AW Γ l mX12_pairs (d + 2) b 160 [vR 171, vI x1, vI (iAnd (iAnd y2 (iXor (iShl 1 y5) (-1))) (iXor (iShl 1 y6) (-1))), vI y5, vI 1, vI y5, vI y6] [] (stt g1) K
              refine aw_goto (off := -97) (tgt := 63) (by decide +kernel) (by decide) ?_
              exact hG
            · have hG := hG.2 hc
              refine aw_iload_n (k' := 2) (by decide +kernel) rfl ?_
              refine aw_goto (off := 11) (tgt := 159) (by decide +kernel) (by decide) ?_
              refine aw_istore_n (k' := 2) (by decide +kernel) (by decide) ?_
              show AW Γ l mX12_pairs (d + 2) b 160 [vR 171, vI x1, vI (iAnd y2 (iXor (iShl 1 y5) (-1))), vI y5, vI 1, vI y5, vI y6] [] (stt g1) K
              refine aw_goto (off := -97) (tgt := 63) (by decide +kernel) (by decide) ?_
              exact hG
          · have hG := hG.2 hc
            refine aw_iload (i := 6) (by decide +kernel) rfl ?_
            refine aw_goto (off := 5) (tgt := 131) (by decide +kernel) (by decide) ?_
            refine aw_istore_n (k' := 3) (by decide +kernel) (by decide) ?_
            show AW Γ l mX12_pairs (d + 2) b 132 [vR 171, vI x1, vI y2, vI y6, vI 1, vI y5, vI y6] [] (stt g1) K
            refine aw_iload_n (k' := 2) (by decide +kernel) rfl ?_
            refine aw_iconst (n := 1) (by decide +kernel) ?_
            refine aw_iload (i := 5) (by decide +kernel) rfl ?_
            refine aw_ishl (by decide +kernel) ?_
            refine aw_iconst (n := -1) (by decide +kernel) ?_
            refine aw_ixor (by decide +kernel) ?_
            refine aw_iand (by decide +kernel) ?_
            refine aw_istore_n (k' := 2) (by decide +kernel) (by decide) ?_
            show AW Γ l mX12_pairs (d + 2) b 141 [vR 171, vI x1, vI (iAnd y2 (iXor (iShl 1 y5) (-1))), vI y6, vI 1, vI y5, vI y6] [] (stt g1) K
            refine aw_iload (i := 6) (by decide +kernel) rfl ?_
            refine aw_iconst (n := -1) (by decide +kernel) ?_
            refine ax_icmp_ne (off := 7) (tgt := 151) (x' := wr y6) (y' := -1) (by decide +kernel) (by decide) rfl (by decide +kernel) (fun hc => ?_) (fun hc => ?_)
            · have hG := hG.1 hc
              refine aw_iload_n (k' := 2) (by decide +kernel) rfl ?_
              refine aw_iconst (n := 1) (by decide +kernel) ?_
              refine aw_iload (i := 6) (by decide +kernel) rfl ?_
              refine aw_ishl (by decide +kernel) ?_
              refine aw_iconst (n := -1) (by decide +kernel) ?_
              refine aw_ixor (by decide +kernel) ?_
              refine aw_iand (by decide +kernel) ?_
              refine aw_istore_n (k' := 2) (by decide +kernel) (by decide) ?_
              show AW Γ l mX12_pairs (d + 2) b 160 [vR 171, vI x1, vI (iAnd (iAnd y2 (iXor (iShl 1 y5) (-1))) (iXor (iShl 1 y6) (-1))), vI y6, vI 1, vI y5, vI y6] [] (stt g1) K
              refine aw_goto (off := -97) (tgt := 63) (by decide +kernel) (by decide) ?_
              exact hG
            · have hG := hG.2 hc
              refine aw_iload_n (k' := 2) (by decide +kernel) rfl ?_
              refine aw_goto (off := 11) (tgt := 159) (by decide +kernel) (by decide) ?_
              refine aw_istore_n (k' := 2) (by decide +kernel) (by decide) ?_
              show AW Γ l mX12_pairs (d + 2) b 160 [vR 171, vI x1, vI (iAnd y2 (iXor (iShl 1 y5) (-1))), vI y6, vI 1, vI y5, vI y6] [] (stt g1) K
              refine aw_goto (off := -97) (tgt := 63) (by decide +kernel) (by decide) ?_
              exact hG
    · have hG := hG.2 hc
      refine aw_iinc (i := 6) (n := 1) (by decide +kernel) rfl (by decide) ?_
      show AW Γ l mX12_pairs (d + 2) b 96 [vR 171, vI x1, vI y2, vI y3, vI y4, vI y5, vI (y6 + 1)] [] (stt g1) K
      refine aw_goto (off := -19) (tgt := 77) (by decide +kernel) (by decide) ?_
      exact hG
  · exact hG

set_option maxHeartbeats 1000000 in
theorem wpX12_speakerHas {Γ : Cfg} {l : Launch} {d b : Nat} {g : GG} {K : Ou → HP → Prop} {x1 : Int} {x2 : Int} {x3 : Int} (hF : Ct Γ l (d + 1) 0 yX12_inOrder mX12_inOrder [vR 171] (stt g) (bV (fun g1 => (¬ wr x2 = 0 → (¬ wr x3 = 0 → K (.inl (vI 1)) (stt g1)) ∧ (¬ (¬ wr x3 = 0) → K (.inl (vI 2)) (stt g1))) ∧ (¬ (¬ wr x2 = 0) → (¬ wr x3 = 0 → (okP x1 0) ∧ (Ct Γ l (d + 1) 0 yX12_weightAt mX12_weightAt [vR 171, vI x1, vI (ofP g1 x1 0)] (stt g1) (bI (fun v1 g2 => K (.inl (vI v1)) (stt g2)) K))) ∧ (¬ (¬ wr x3 = 0) → Ct Γ l (d + 1) 0 yX12_sureOf mX12_sureOf [vR 171, vI x1] (stt g1) (bI (fun v2 g3 => K (.inl (vI v2)) (stt g3)) K)))) K)) : Ct Γ l (d + 2) b yX12_speakerHas mX12_speakerHas [vR 171, vI x1, vI x2, vI x3] (stt g) K := by
  refine Ct.enter (L := [vR 171, vI x1, vI x2, vI x3]) rfl rfl rfl (by decide +kernel) (by simp [oneSlot]) (Nat.le_of_ble_eq_true rfl) rfl ?_
  refine aw_aload_n (k' := 0) (by decide +kernel) rfl ?_
  refine aw_callV (y := yX12_inOrder) (M2 := mX12_inOrder) (as := []) (S := []) (t := 171) (d2 := (d + 1)) (b2 := 0) (b3 := b) cwX12_inOrder mlX12_377 imX12_inOrder seX12_inOrder (by decide +kernel) rfl (ci := 10) rfl (OB.at (ci := 10) (show shp 171 = (20, 0) by decide +kernel) (by decide)) (Nat.le_refl _) (Nat.le_of_eq (Nat.zero_add _)) rfl rfl (by simp [oneSlot]) (Nat.le_of_ble_eq_true rfl) (Ct.mono hF ?_)
  rintro o h' (⟨g1, rfl, rfl, hG⟩ | ⟨E, g, rfl, rfl, hG⟩)
  · show AW Γ l mX12_speakerHas (d + 2) b 4 [vR 171, vI x1, vI x2, vI x3] [] (stt g1) K
    refine aw_iload_n (k' := 2) (by decide +kernel) rfl ?_
    refine ax_if_ne (off := 27) (tgt := 32) (x' := wr x2) (by decide +kernel) (by decide) rfl (fun hc => ?_) (fun hc => ?_)
    · have hG := hG.1 hc
      refine aw_iload_n (k' := 3) (by decide +kernel) rfl ?_
      refine ax_if_ne (off := 7) (tgt := 40) (x' := wr x3) (by decide +kernel) (by decide) rfl (fun hc => ?_) (fun hc => ?_)
      · have hG := hG.1 hc
        refine aw_iconst (n := 1) (by decide +kernel) ?_
        exact aw_iret (by decide +kernel) rfl hG
      · have hG := hG.2 hc
        refine aw_iconst (n := 2) (by decide +kernel) ?_
        refine aw_goto (off := 4) (tgt := 41) (by decide +kernel) (by decide) ?_
        exact aw_iret (by decide +kernel) rfl hG
    · have hG := hG.2 hc
      refine aw_iload_n (k' := 3) (by decide +kernel) rfl ?_
      refine ax_if_ne (off := 11) (tgt := 20) (x' := wr x3) (by decide +kernel) (by decide) rfl (fun hc => ?_) (fun hc => ?_)
      · have hG := hG.1 hc
        refine aw_aload_n (k' := 0) (by decide +kernel) rfl ?_
        refine aw_iload_n (k' := 1) (by decide +kernel) rfl ?_
        refine aw_aload_n (k' := 0) (by decide +kernel) rfl ?_
        refine aw_iload_n (k' := 1) (by decide +kernel) rfl ?_
        refine aw_iconst (n := 0) (by decide +kernel) ?_
        refine aw_callV (y := yX12_of) (M2 := mX12_of) (as := [vI x1, vI 0]) (S := [vI x1, vR 171]) (t := 171) (d2 := (d + 1)) (b2 := 0) (b3 := b) cwX12_of mlX12_84 imX12_of seX12_of (by decide +kernel) rfl (ci := 10) rfl (OB.at (ci := 10) (show shp 171 = (20, 0) by decide +kernel) (by decide)) (Nat.le_refl _) (Nat.le_of_eq (Nat.zero_add _)) rfl rfl (by simp [oneSlot]) (Nat.le_of_ble_eq_true rfl) (c_of hG.1 ?_)
        show AW Γ l mX12_speakerHas (d + 2) b 28 [vR 171, vI x1, vI x2, vI x3] [vI (ofP g1 x1 0), vI x1, vR 171] (stt g1) K
        replace hG := hG.2
        refine aw_callV (y := yX12_weightAt) (M2 := mX12_weightAt) (as := [vI x1, vI (ofP g1 x1 0)]) (S := []) (t := 171) (d2 := (d + 1)) (b2 := 0) (b3 := b) cwX12_weightAt mlX12_345 imX12_weightAt seX12_weightAt (by decide +kernel) rfl (ci := 10) rfl (OB.at (ci := 10) (show shp 171 = (20, 0) by decide +kernel) (by decide)) (Nat.le_refl _) (Nat.le_of_eq (Nat.zero_add _)) rfl rfl (by simp [oneSlot]) (Nat.le_of_ble_eq_true rfl) (Ct.mono hG ?_)
        rintro o h' (⟨v1, g2, rfl, rfl, hG⟩ | ⟨E, g, rfl, rfl, hG⟩)
        · show AW Γ l mX12_speakerHas (d + 2) b 31 [vR 171, vI x1, vI x2, vI x3] [vI v1] (stt g2) K
          exact aw_iret (by decide +kernel) rfl hG
        · exact hG
      · have hG := hG.2 hc
        refine aw_aload_n (k' := 0) (by decide +kernel) rfl ?_
        refine aw_iload_n (k' := 1) (by decide +kernel) rfl ?_
        refine aw_callV (y := yX12_sureOf) (M2 := mX12_sureOf) (as := [vI x1]) (S := []) (t := 171) (d2 := (d + 1)) (b2 := 0) (b3 := b) cwX12_sureOf mlX12_393 imX12_sureOf seX12_sureOf (by decide +kernel) rfl (ci := 10) rfl (OB.at (ci := 10) (show shp 171 = (20, 0) by decide +kernel) (by decide)) (Nat.le_refl _) (Nat.le_of_eq (Nat.zero_add _)) rfl rfl (by simp [oneSlot]) (Nat.le_of_ble_eq_true rfl) (Ct.mono hG ?_)
        rintro o h' (⟨v2, g3, rfl, rfl, hG⟩ | ⟨E, g, rfl, rfl, hG⟩)
        · show AW Γ l mX12_speakerHas (d + 2) b 17 [vR 171, vI x1, vI x2, vI x3] [vI v2] (stt g3) K
          refine aw_goto (off := 14) (tgt := 31) (by decide +kernel) (by decide) ?_
          exact aw_iret (by decide +kernel) rfl hG
        · exact hG
  · exact hG

set_option maxHeartbeats 1000000 in
theorem wpX12_rivalHas {Γ : Cfg} {l : Launch} {d b : Nat} {g : GG} {K : Ou → HP → Prop} {x1 : Int} {x2 : Int} {x3 : Int} (hF : (¬ wr x2 = 0 → (¬ wr x3 = 0 → K (.inl (vI 1)) (stt g)) ∧ (¬ (¬ wr x3 = 0) → (okP x1 2) ∧ (K (.inl (vI (-(ofP g x1 2)))) (stt g)))) ∧ (¬ (¬ wr x2 = 0) → (¬ wr x3 = 0 → K (.inl (vI 0)) (stt g)) ∧ (¬ (¬ wr x3 = 0) → K (.inl (vI 3)) (stt g)))) : Ct Γ l (d + 2) b yX12_rivalHas mX12_rivalHas [vR 171, vI x1, vI x2, vI x3] (stt g) K := by
  refine Ct.enter (L := [vR 171, vI x1, vI x2, vI x3]) rfl rfl rfl (by decide +kernel) (by simp [oneSlot]) (Nat.le_of_ble_eq_true rfl) rfl ?_
  refine aw_iload_n (k' := 2) (by decide +kernel) rfl ?_
  refine ax_if_ne (off := 13) (tgt := 14) (x' := wr x2) (by decide +kernel) (by decide) rfl (fun hc => ?_) (fun hc => ?_)
  · have hF := hF.1 hc
    refine aw_iload_n (k' := 3) (by decide +kernel) rfl ?_
    refine ax_if_ne (off := 13) (tgt := 28) (x' := wr x3) (by decide +kernel) (by decide) rfl (fun hc => ?_) (fun hc => ?_)
    · have hF := hF.1 hc
      refine aw_iconst (n := 1) (by decide +kernel) ?_
      exact aw_iret (by decide +kernel) rfl hF
    · have hF := hF.2 hc
      refine aw_aload_n (k' := 0) (by decide +kernel) rfl ?_
      refine aw_iload_n (k' := 1) (by decide +kernel) rfl ?_
      refine aw_iconst (n := 2) (by decide +kernel) ?_
      refine aw_callV (y := yX12_of) (M2 := mX12_of) (as := [vI x1, vI 2]) (S := []) (t := 171) (d2 := (d + 1)) (b2 := 0) (b3 := b) cwX12_of mlX12_84 imX12_of seX12_of (by decide +kernel) rfl (ci := 10) rfl (OB.at (ci := 10) (show shp 171 = (20, 0) by decide +kernel) (by decide)) (Nat.le_refl _) (Nat.le_of_eq (Nat.zero_add _)) rfl rfl (by simp [oneSlot]) (Nat.le_of_ble_eq_true rfl) (c_of hF.1 ?_)
      show AW Γ l mX12_rivalHas (d + 2) b 24 [vR 171, vI x1, vI x2, vI x3] [vI (ofP g x1 2)] (stt g) K
      replace hF := hF.2
      refine aw_ineg (by decide +kernel) ?_
      refine aw_goto (off := 4) (tgt := 29) (by decide +kernel) (by decide) ?_
      exact aw_iret (by decide +kernel) rfl hF
  · have hF := hF.2 hc
    refine aw_iload_n (k' := 3) (by decide +kernel) rfl ?_
    refine ax_if_ne (off := 7) (tgt := 12) (x' := wr x3) (by decide +kernel) (by decide) rfl (fun hc => ?_) (fun hc => ?_)
    · have hF := hF.1 hc
      refine aw_iconst (n := 0) (by decide +kernel) ?_
      exact aw_iret (by decide +kernel) rfl hF
    · have hF := hF.2 hc
      refine aw_iconst (n := 3) (by decide +kernel) ?_
      refine aw_goto (off := 4) (tgt := 13) (by decide +kernel) (by decide) ?_
      exact aw_iret (by decide +kernel) rfl hF

set_option maxHeartbeats 1000000 in
theorem wpX12_rests {Γ : Cfg} {l : Launch} {d b : Nat} {g : GG} {K : Ou → HP → Prop} {x1 : Int} (hF : (¬ (0 ≤ wr x1 ∧ wr x1 ≤ wr ((upd2 g 171 0 0) 172 0 - 1)) → K (.inl (vI 0)) (stt (upd2 (upd2 g 171 0 0) 171 0 1))) ∧ (¬ (¬ (0 ≤ wr x1 ∧ wr x1 ≤ wr ((upd2 g 171 0 0) 172 0 - 1))) → AW Γ l mX12_rests (d + 2) b 24 [vR 171, vI x1, vI 0, vI 0, vU] [] (stt (upd2 g 171 0 0)) K)) : Ct Γ l (d + 2) b yX12_rests mX12_rests [vR 171, vI x1] (stt g) K := by
  refine Ct.enter (L := [vR 171, vI x1, vU, vU, vU]) rfl rfl rfl (by decide +kernel) (by simp [oneSlot]) (Nat.le_of_ble_eq_true rfl) rfl ?_
  refine aw_aload_n (k' := 0) (by decide +kernel) rfl ?_
  refine aw_iconst (n := 0) (by decide +kernel) ?_
  refine pfX12_3 rfl (by decide +kernel) (OB.at (ci := 10) (show shp 171 = (20, 0) by decide +kernel) (by decide)) ?_
  show AW Γ l mX12_rests (d + 2) b 5 [vR 171, vI x1, vU, vU, vU] [] (stt (upd2 g 171 0 0)) K
  refine aw_aload_n (k' := 0) (by decide +kernel) rfl ?_
  refine aw_aload_n (k' := 0) (by decide +kernel) rfl ?_
  refine aw_iload_n (k' := 1) (by decide +kernel) rfl ?_
  refine aw_callV (y := yX12_noPerson) (M2 := mX12_noPerson) (as := [vI x1]) (S := [vR 171]) (t := 171) (d2 := (d + 1)) (b2 := 0) (b3 := b) cwX12_noPerson mlX12_386 imX12_noPerson seX12_noPerson (by decide +kernel) rfl (ci := 10) rfl (OB.at (ci := 10) (show shp 171 = (20, 0) by decide +kernel) (by decide)) (Nat.le_refl _) (Nat.le_of_eq (Nat.zero_add _)) rfl rfl (by simp [oneSlot]) (Nat.le_of_ble_eq_true rfl) (c_noPerson (fun hc => ?_) (fun hc => ?_))
  · have hF := hF.1 hc
    show AW Γ l mX12_rests (d + 2) b 11 [vR 171, vI x1, vU, vU, vU] [vI 1, vR 171] (stt (upd2 g 171 0 0)) K
    refine aw_iconst (n := 1) (by decide +kernel) ?_
    refine aw_callV (y := yX12_throwsIf) (M2 := mX12_throwsIf) (as := [vI 1, vI 1]) (S := []) (t := 171) (d2 := (d + 1)) (b2 := 0) (b3 := b) cwX12_throwsIf mlX12_279 imX12_throwsIf seX12_throwsIf (by decide +kernel) rfl (ci := 10) rfl (OB.at (ci := 10) (show shp 171 = (20, 0) by decide +kernel) (by decide)) (Nat.le_refl _) (Nat.le_of_eq (Nat.zero_add _)) rfl rfl (by simp [oneSlot]) (Nat.le_of_ble_eq_true rfl) (c_throwsIf1 ?_)
    show AW Γ l mX12_rests (d + 2) b 15 [vR 171, vI x1, vU, vU, vU] [vI 1] (stt (upd2 (upd2 g 171 0 0) 171 0 1)) K
    refine ax_if_eq (off := 5) (tgt := 20) (x' := 1) (by decide +kernel) (by decide) (by decide +kernel) (fun hc => absurd hc (by decide)) (fun hc => ?_)
    refine aw_iconst (n := 0) (by decide +kernel) ?_
    exact aw_iret (by decide +kernel) rfl hF
  · have hF := hF.2 hc
    show AW Γ l mX12_rests (d + 2) b 11 [vR 171, vI x1, vU, vU, vU] [vI 0, vR 171] (stt (upd2 g 171 0 0)) K
    refine aw_iconst (n := 1) (by decide +kernel) ?_
    refine aw_callV (y := yX12_throwsIf) (M2 := mX12_throwsIf) (as := [vI 0, vI 1]) (S := []) (t := 171) (d2 := (d + 1)) (b2 := 0) (b3 := b) cwX12_throwsIf mlX12_279 imX12_throwsIf seX12_throwsIf (by decide +kernel) rfl (ci := 10) rfl (OB.at (ci := 10) (show shp 171 = (20, 0) by decide +kernel) (by decide)) (Nat.le_refl _) (Nat.le_of_eq (Nat.zero_add _)) rfl rfl (by simp [oneSlot]) (Nat.le_of_ble_eq_true rfl) (c_throwsIf0 ?_)
    show AW Γ l mX12_rests (d + 2) b 15 [vR 171, vI x1, vU, vU, vU] [vI 0] (stt (upd2 g 171 0 0)) K
    refine ax_if_eq (off := 5) (tgt := 20) (x' := 0) (by decide +kernel) (by decide) (by decide +kernel) (fun hc => ?_) (fun hc => absurd (by decide) hc)
    refine aw_iconst (n := 0) (by decide +kernel) ?_
    refine aw_istore_n (k' := 2) (by decide +kernel) (by decide) ?_
    show AW Γ l mX12_rests (d + 2) b 22 [vR 171, vI x1, vI 0, vU, vU] [] (stt (upd2 g 171 0 0)) K
    refine aw_iconst (n := 0) (by decide +kernel) ?_
    refine aw_istore_n (k' := 3) (by decide +kernel) (by decide) ?_
    show AW Γ l mX12_rests (d + 2) b 24 [vR 171, vI x1, vI 0, vI 0, vU] [] (stt (upd2 g 171 0 0)) K
    exact hF
set_option maxHeartbeats 1000000 in
theorem wpX12_rests_24 {Γ : Cfg} {l : Launch} {d b : Nat} {g : GG} {K : Ou → HP → Prop} {x1 : Int} {y2 : Int} {y3 : Int} (hF : (2 ≤ wr y3 → K (.inl (vI y2)) (stt g)) ∧ (¬ (2 ≤ wr y3) → AW Γ l mX12_rests (d + 2) b 32 [vR 171, vI x1, vI y2, vI y3, vI 0] [] (stt g) K)) : AW Γ l mX12_rests (d + 2) b 24 [vR 171, vI x1, vI y2, vI y3, vU] [] (stt g) K := by
  refine aw_iload_n (k' := 3) (by decide +kernel) rfl ?_
  refine aw_iconst (n := 2) (by decide +kernel) ?_
  refine ax_icmp_ge (off := 81) (tgt := 107) (x' := wr y3) (y' := 2) (by decide +kernel) (by decide) rfl (by decide +kernel) (fun hc => ?_) (fun hc => ?_)
  · have hF := hF.1 hc
    refine aw_iload_n (k' := 2) (by decide +kernel) rfl ?_
    exact aw_iret (by decide +kernel) rfl hF
  · have hF := hF.2 hc
    refine aw_iconst (n := 0) (by decide +kernel) ?_
    refine aw_istore (i := 4) (by decide +kernel) (by decide) ?_
    show AW Γ l mX12_rests (d + 2) b 32 [vR 171, vI x1, vI y2, vI y3, vI 0] [] (stt g) K
    exact hF
set_option maxHeartbeats 1000000 in
theorem wpX12_rests_32 {Γ : Cfg} {l : Launch} {d b : Nat} {g : GG} {K : Ou → HP → Prop} {x1 : Int} {y2 : Int} {y3 : Int} {y4 : Int} (hF : (2 ≤ wr y4 → AW Γ l mX12_rests (d + 2) b 24 [vR 171, vI x1, vI y2, vI (y3 + 1), vI y4] [] (stt g) K) ∧ (¬ (2 ≤ wr y4) → Ct Γ l (d + 1) 0 yX12_speakerHas mX12_speakerHas [vR 171, vI x1, vI y3, vI y4] (stt g) (bI (fun v1 g1 => Ct Γ l (d + 1) 0 yX12_speakerHas mX12_speakerHas [vR 171, vI x1, vI (1 - y3), vI y4] (stt g1) (bI (fun v2 g2 => (wr v1 < wr v2 → AW Γ l mX12_rests (d + 2) b 32 [vR 171, vI x1, vI (iOr y2 0), vI y3, vI (y4 + 1)] [] (stt g2) K) ∧ (¬ (wr v1 < wr v2) → Ct Γ l (d + 1) 0 yX12_rivalHas mX12_rivalHas [vR 171, vI x1, vI y3, vI y4] (stt g2) (bI (fun v3 g3 => Ct Γ l (d + 1) 0 yX12_rivalHas mX12_rivalHas [vR 171, vI x1, vI y3, vI (1 - y4)] (stt g3) (bI (fun v4 g4 => (wr v3 < wr v4 → AW Γ l mX12_rests (d + 2) b 32 [vR 171, vI x1, vI (iOr y2 0), vI y3, vI (y4 + 1)] [] (stt g4) K) ∧ (¬ (wr v3 < wr v4) → AW Γ l mX12_rests (d + 2) b 32 [vR 171, vI x1, vI (iOr y2 (iShl 1 ((2 * y3) + y4))), vI y3, vI (y4 + 1)] [] (stt g4) K)) K)) K))) K)) K))) : AW Γ l mX12_rests (d + 2) b 32 [vR 171, vI x1, vI y2, vI y3, vI y4] [] (stt g) K := by
  refine aw_iload (i := 4) (by decide +kernel) rfl ?_
  refine aw_iconst (n := 2) (by decide +kernel) ?_
  refine ax_icmp_ge (off := 66) (tgt := 101) (x' := wr y4) (y' := 2) (by decide +kernel) (by decide) rfl (by decide +kernel) (fun hc => ?_) (fun hc => ?_)
  · have hF := hF.1 hc
    refine aw_iinc (i := 3) (n := 1) (by decide +kernel) rfl (by decide) ?_
    show AW Γ l mX12_rests (d + 2) b 104 [vR 171, vI x1, vI y2, vI (y3 + 1), vI y4] [] (stt g) K
    refine aw_goto (off := -80) (tgt := 24) (by decide +kernel) (by decide) ?_
    exact hF
  · have hF := hF.2 hc
    refine aw_iload_n (k' := 2) (by decide +kernel) rfl ?_
    refine aw_aload_n (k' := 0) (by decide +kernel) rfl ?_
    refine aw_iload_n (k' := 1) (by decide +kernel) rfl ?_
    refine aw_iload_n (k' := 3) (by decide +kernel) rfl ?_
    refine aw_iload (i := 4) (by decide +kernel) rfl ?_
    refine aw_callV (y := yX12_speakerHas) (M2 := mX12_speakerHas) (as := [vI x1, vI y3, vI y4]) (S := [vI y2]) (t := 171) (d2 := (d + 1)) (b2 := 0) (b3 := b) cwX12_speakerHas mlX12_483 imX12_speakerHas seX12_speakerHas (by decide +kernel) rfl (ci := 10) rfl (OB.at (ci := 10) (show shp 171 = (20, 0) by decide +kernel) (by decide)) (Nat.le_refl _) (Nat.le_of_eq (Nat.zero_add _)) rfl rfl (by simp [oneSlot]) (Nat.le_of_ble_eq_true rfl) (Ct.mono hF ?_)
    rintro o h' (⟨v1, g1, rfl, rfl, hG⟩ | ⟨E, g, rfl, rfl, hG⟩)
    · show AW Γ l mX12_rests (d + 2) b 47 [vR 171, vI x1, vI y2, vI y3, vI y4] [vI v1, vI y2] (stt g1) K
      refine aw_aload_n (k' := 0) (by decide +kernel) rfl ?_
      refine aw_iload_n (k' := 1) (by decide +kernel) rfl ?_
      refine aw_iconst (n := 1) (by decide +kernel) ?_
      refine aw_iload_n (k' := 3) (by decide +kernel) rfl ?_
      refine aw_isub (by decide +kernel) ?_
      refine aw_iload (i := 4) (by decide +kernel) rfl ?_
      refine aw_callV (y := yX12_speakerHas) (M2 := mX12_speakerHas) (as := [vI x1, vI (1 - y3), vI y4]) (S := [vI v1, vI y2]) (t := 171) (d2 := (d + 1)) (b2 := 0) (b3 := b) cwX12_speakerHas mlX12_483 imX12_speakerHas seX12_speakerHas (by decide +kernel) rfl (ci := 10) rfl (OB.at (ci := 10) (show shp 171 = (20, 0) by decide +kernel) (by decide)) (Nat.le_refl _) (Nat.le_of_eq (Nat.zero_add _)) rfl rfl (by simp [oneSlot]) (Nat.le_of_ble_eq_true rfl) (Ct.mono hG ?_)
      rintro o h' (⟨v2, g2, rfl, rfl, hG⟩ | ⟨E, g, rfl, rfl, hG⟩)
      · show AW Γ l mX12_rests (d + 2) b 57 [vR 171, vI x1, vI y2, vI y3, vI y4] [vI v2, vI v1, vI y2] (stt g2) K
        refine ax_icmp_lt (off := 35) (tgt := 92) (x' := wr v1) (y' := wr v2) (by decide +kernel) (by decide) rfl rfl (fun hc => ?_) (fun hc => ?_)
        · have hG := hG.1 hc
          refine aw_iconst (n := 0) (by decide +kernel) ?_
          refine aw_ior (by decide +kernel) ?_
          refine aw_istore_n (k' := 2) (by decide +kernel) (by decide) ?_
          show AW Γ l mX12_rests (d + 2) b 95 [vR 171, vI x1, vI (iOr y2 0), vI y3, vI y4] [] (stt g2) K
          refine aw_iinc (i := 4) (n := 1) (by decide +kernel) rfl (by decide) ?_
          show AW Γ l mX12_rests (d + 2) b 98 [vR 171, vI x1, vI (iOr y2 0), vI y3, vI (y4 + 1)] [] (stt g2) K
          refine aw_goto (off := -66) (tgt := 32) (by decide +kernel) (by decide) ?_
          exact hG
        · have hG := hG.2 hc
          refine aw_aload_n (k' := 0) (by decide +kernel) rfl ?_
          refine aw_iload_n (k' := 1) (by decide +kernel) rfl ?_
          refine aw_iload_n (k' := 3) (by decide +kernel) rfl ?_
          refine aw_iload (i := 4) (by decide +kernel) rfl ?_
          refine aw_callV (y := yX12_rivalHas) (M2 := mX12_rivalHas) (as := [vI x1, vI y3, vI y4]) (S := [vI y2]) (t := 171) (d2 := (d + 1)) (b2 := 0) (b3 := b) cwX12_rivalHas mlX12_487 imX12_rivalHas seX12_rivalHas (by decide +kernel) rfl (ci := 10) rfl (OB.at (ci := 10) (show shp 171 = (20, 0) by decide +kernel) (by decide)) (Nat.le_refl _) (Nat.le_of_eq (Nat.zero_add _)) rfl rfl (by simp [oneSlot]) (Nat.le_of_ble_eq_true rfl) (Ct.mono hG ?_)
          rintro o h' (⟨v3, g3, rfl, rfl, hG⟩ | ⟨E, g, rfl, rfl, hG⟩)
          · show AW Γ l mX12_rests (d + 2) b 68 [vR 171, vI x1, vI y2, vI y3, vI y4] [vI v3, vI y2] (stt g3) K
            refine aw_aload_n (k' := 0) (by decide +kernel) rfl ?_
            refine aw_iload_n (k' := 1) (by decide +kernel) rfl ?_
            refine aw_iload_n (k' := 3) (by decide +kernel) rfl ?_
            refine aw_iconst (n := 1) (by decide +kernel) ?_
            refine aw_iload (i := 4) (by decide +kernel) rfl ?_
            refine aw_isub (by decide +kernel) ?_
            refine aw_callV (y := yX12_rivalHas) (M2 := mX12_rivalHas) (as := [vI x1, vI y3, vI (1 - y4)]) (S := [vI v3, vI y2]) (t := 171) (d2 := (d + 1)) (b2 := 0) (b3 := b) cwX12_rivalHas mlX12_487 imX12_rivalHas seX12_rivalHas (by decide +kernel) rfl (ci := 10) rfl (OB.at (ci := 10) (show shp 171 = (20, 0) by decide +kernel) (by decide)) (Nat.le_refl _) (Nat.le_of_eq (Nat.zero_add _)) rfl rfl (by simp [oneSlot]) (Nat.le_of_ble_eq_true rfl) (Ct.mono hG ?_)
            rintro o h' (⟨v4, g4, rfl, rfl, hG⟩ | ⟨E, g, rfl, rfl, hG⟩)
            · show AW Γ l mX12_rests (d + 2) b 78 [vR 171, vI x1, vI y2, vI y3, vI y4] [vI v4, vI v3, vI y2] (stt g4) K
              refine ax_icmp_lt (off := 14) (tgt := 92) (x' := wr v3) (y' := wr v4) (by decide +kernel) (by decide) rfl rfl (fun hc => ?_) (fun hc => ?_)
              · have hG := hG.1 hc
                refine aw_iconst (n := 0) (by decide +kernel) ?_
                refine aw_ior (by decide +kernel) ?_
                refine aw_istore_n (k' := 2) (by decide +kernel) (by decide) ?_
                show AW Γ l mX12_rests (d + 2) b 95 [vR 171, vI x1, vI (iOr y2 0), vI y3, vI y4] [] (stt g4) K
                refine aw_iinc (i := 4) (n := 1) (by decide +kernel) rfl (by decide) ?_
                show AW Γ l mX12_rests (d + 2) b 98 [vR 171, vI x1, vI (iOr y2 0), vI y3, vI (y4 + 1)] [] (stt g4) K
                refine aw_goto (off := -66) (tgt := 32) (by decide +kernel) (by decide) ?_
                exact hG
              · have hG := hG.2 hc
                refine aw_iconst (n := 1) (by decide +kernel) ?_
                refine aw_iconst (n := 2) (by decide +kernel) ?_
                refine aw_iload_n (k' := 3) (by decide +kernel) rfl ?_
                refine aw_imul (by decide +kernel) ?_
                refine aw_iload (i := 4) (by decide +kernel) rfl ?_
                refine aw_iadd (by decide +kernel) ?_
                refine aw_ishl (by decide +kernel) ?_
                refine aw_goto (off := 4) (tgt := 93) (by decide +kernel) (by decide) ?_
                refine aw_ior (by decide +kernel) ?_
                refine aw_istore_n (k' := 2) (by decide +kernel) (by decide) ?_
                show AW Γ l mX12_rests (d + 2) b 95 [vR 171, vI x1, vI (iOr y2 (iShl 1 ((2 * y3) + y4))), vI y3, vI y4] [] (stt g4) K
                refine aw_iinc (i := 4) (n := 1) (by decide +kernel) rfl (by decide) ?_
                show AW Γ l mX12_rests (d + 2) b 98 [vR 171, vI x1, vI (iOr y2 (iShl 1 ((2 * y3) + y4))), vI y3, vI (y4 + 1)] [] (stt g4) K
                refine aw_goto (off := -66) (tgt := 32) (by decide +kernel) (by decide) ?_
                exact hG
            · exact hG
          · exact hG
      · exact hG
    · exact hG

set_option maxHeartbeats 1000000 in
theorem wpX12_odds {Γ : Cfg} {l : Launch} {d b : Nat} {g : GG} {K : Ou → HP → Prop} {x1 : Int} (hF : (0 ≤ wr x1 ∧ wr x1 ≤ 4 → AW Γ l mX12_odds (d + 2) b 35 [vR 171, vI x1, vI 10000, vI 0, vU] [] (stt (upd2 g 171 0 0)) K) ∧ (¬ (0 ≤ wr x1 ∧ wr x1 ≤ 4) → K (.inl (vI 0)) (stt (upd2 (upd2 g 171 0 0) 171 0 1)))) : Ct Γ l (d + 2) b yX12_odds mX12_odds [vR 171, vI x1] (stt g) K := by
  refine Ct.enter (L := [vR 171, vI x1, vU, vU, vU]) rfl rfl rfl (by decide +kernel) (by simp [oneSlot]) (Nat.le_of_ble_eq_true rfl) rfl ?_
  refine aw_aload_n (k' := 0) (by decide +kernel) rfl ?_
  refine aw_iconst (n := 0) (by decide +kernel) ?_
  refine pfX12_3 rfl (by decide +kernel) (OB.at (ci := 10) (show shp 171 = (20, 0) by decide +kernel) (by decide)) ?_
  show AW Γ l mX12_odds (d + 2) b 5 [vR 171, vI x1, vU, vU, vU] [] (stt (upd2 g 171 0 0)) K
  refine aw_aload_n (k' := 0) (by decide +kernel) rfl ?_
  refine aw_iload_n (k' := 1) (by decide +kernel) rfl ?_
  refine aw_iconst (n := 0) (by decide +kernel) ?_
  refine aw_iconst (n := 4) (by decide +kernel) ?_
  refine aw_callS (y := yX12_in) (M2 := mX12_in) (as := [vI x1, vI 0, vI 4]) (S := [vR 171]) (d2 := (d + 1)) (b2 := 0) (b3 := b) cwX12_in mlX12_91 stX12_in (by decide +kernel) rfl (Nat.le_refl _) (Nat.le_of_eq (Nat.zero_add _)) rfl rfl (by simp [oneSlot]) (Nat.le_of_ble_eq_true rfl) (c_in (x' := wr x1) (y' := 0) (z' := 4) rfl (by decide +kernel) (by decide +kernel) (fun hc => ?_) (fun hc => ?_))
  · have hF := hF.1 hc
    show AW Γ l mX12_odds (d + 2) b 12 [vR 171, vI x1, vU, vU, vU] [vI 1, vR 171] (stt (upd2 g 171 0 0)) K
    refine ax_if_ne (off := 7) (tgt := 19) (x' := 1) (by decide +kernel) (by decide) (by decide +kernel) (fun hc => ?_) (fun hc => absurd (by decide) hc)
    refine aw_iconst (n := 0) (by decide +kernel) ?_
    refine aw_iconst (n := 1) (by decide +kernel) ?_
    refine aw_callV (y := yX12_throwsIf) (M2 := mX12_throwsIf) (as := [vI 0, vI 1]) (S := []) (t := 171) (d2 := (d + 1)) (b2 := 0) (b3 := b) cwX12_throwsIf mlX12_279 imX12_throwsIf seX12_throwsIf (by decide +kernel) rfl (ci := 10) rfl (OB.at (ci := 10) (show shp 171 = (20, 0) by decide +kernel) (by decide)) (Nat.le_refl _) (Nat.le_of_eq (Nat.zero_add _)) rfl rfl (by simp [oneSlot]) (Nat.le_of_ble_eq_true rfl) (c_throwsIf0 ?_)
    show AW Γ l mX12_odds (d + 2) b 24 [vR 171, vI x1, vU, vU, vU] [vI 0] (stt (upd2 g 171 0 0)) K
    refine ax_if_eq (off := 5) (tgt := 29) (x' := 0) (by decide +kernel) (by decide) (by decide +kernel) (fun hc => ?_) (fun hc => absurd (by decide) hc)
    refine aw_sipush (n := 10000) (by decide +kernel) (by decide +kernel) ?_
    refine aw_istore_n (k' := 2) (by decide +kernel) (by decide) ?_
    show AW Γ l mX12_odds (d + 2) b 33 [vR 171, vI x1, vI 10000, vU, vU] [] (stt (upd2 g 171 0 0)) K
    refine aw_iconst (n := 0) (by decide +kernel) ?_
    refine aw_istore_n (k' := 3) (by decide +kernel) (by decide) ?_
    show AW Γ l mX12_odds (d + 2) b 35 [vR 171, vI x1, vI 10000, vI 0, vU] [] (stt (upd2 g 171 0 0)) K
    exact hF
  · have hF := hF.2 hc
    show AW Γ l mX12_odds (d + 2) b 12 [vR 171, vI x1, vU, vU, vU] [vI 0, vR 171] (stt (upd2 g 171 0 0)) K
    refine ax_if_ne (off := 7) (tgt := 19) (x' := 0) (by decide +kernel) (by decide) (by decide +kernel) (fun hc => absurd hc (by decide)) (fun hc => ?_)
    refine aw_iconst (n := 1) (by decide +kernel) ?_
    refine aw_goto (off := 4) (tgt := 20) (by decide +kernel) (by decide) ?_
    refine aw_iconst (n := 1) (by decide +kernel) ?_
    refine aw_callV (y := yX12_throwsIf) (M2 := mX12_throwsIf) (as := [vI 1, vI 1]) (S := []) (t := 171) (d2 := (d + 1)) (b2 := 0) (b3 := b) cwX12_throwsIf mlX12_279 imX12_throwsIf seX12_throwsIf (by decide +kernel) rfl (ci := 10) rfl (OB.at (ci := 10) (show shp 171 = (20, 0) by decide +kernel) (by decide)) (Nat.le_refl _) (Nat.le_of_eq (Nat.zero_add _)) rfl rfl (by simp [oneSlot]) (Nat.le_of_ble_eq_true rfl) (c_throwsIf1 ?_)
    show AW Γ l mX12_odds (d + 2) b 24 [vR 171, vI x1, vU, vU, vU] [vI 1] (stt (upd2 (upd2 g 171 0 0) 171 0 1)) K
    refine ax_if_eq (off := 5) (tgt := 29) (x' := 1) (by decide +kernel) (by decide) (by decide +kernel) (fun hc => absurd hc (by decide)) (fun hc => ?_)
    refine aw_iconst (n := 0) (by decide +kernel) ?_
    exact aw_iret (by decide +kernel) rfl hF
set_option maxHeartbeats 1000000 in
theorem wpX12_odds_35 {Γ : Cfg} {l : Launch} {d b : Nat} {g : GG} {K : Ou → HP → Prop} {x1 : Int} {y2 : Int} {y3 : Int} (hF : (wr x1 ≤ wr y3 → K (.inl (vI y2)) (stt g)) ∧ (¬ (wr x1 ≤ wr y3) → AW Γ l mX12_odds (d + 2) b 43 [vR 171, vI x1, vI y2, vI y3, vI 0] [] (stt g) K)) : AW Γ l mX12_odds (d + 2) b 35 [vR 171, vI x1, vI y2, vI y3, vU] [] (stt g) K := by
  refine aw_iload_n (k' := 3) (by decide +kernel) rfl ?_
  refine aw_iload_n (k' := 1) (by decide +kernel) rfl ?_
  refine ax_icmp_ge (off := 67) (tgt := 104) (x' := wr y3) (y' := wr x1) (by decide +kernel) (by decide) rfl rfl (fun hc => ?_) (fun hc => ?_)
  · have hF := hF.1 hc
    refine aw_iload_n (k' := 2) (by decide +kernel) rfl ?_
    exact aw_iret (by decide +kernel) rfl hF
  · have hF := hF.2 hc
    refine aw_iconst (n := 0) (by decide +kernel) ?_
    refine aw_istore (i := 4) (by decide +kernel) (by decide) ?_
    show AW Γ l mX12_odds (d + 2) b 43 [vR 171, vI x1, vI y2, vI y3, vI 0] [] (stt g) K
    exact hF
set_option maxHeartbeats 1000000 in
theorem wpX12_odds_43 {Γ : Cfg} {l : Launch} {d b : Nat} {g : GG} {K : Ou → HP → Prop} {x1 : Int} {y2 : Int} {y3 : Int} {y4 : Int} (hF : (wr (g 172 0) ≤ wr y4 → AW Γ l mX12_odds (d + 2) b 35 [vR 171, vI x1, vI y2, vI (y3 + 1), vI y4] [] (stt g) K) ∧ (¬ (wr (g 172 0) ≤ wr y4) → (okP y4 3) ∧ ((¬ wr (ofP g y4 3) = 1 → AW Γ l mX12_odds (d + 2) b 43 [vR 171, vI x1, vI y2, vI y3, vI (y4 + 1)] [] (stt g) K) ∧ (¬ (¬ wr (ofP g y4 3) = 1) → (okP y4 2) ∧ (Ct Γ l (d + 1) 0 yX12_chanceOf mX12_chanceOf [vI (g 172 3), vI (ofP g y4 2)] (stt g) (bI (fun v1 g1 => AW Γ l mX12_odds (d + 2) b 43 [vR 171, vI x1, vI (iDiv (y2 * (100 - v1)) 100), vI y3, vI (y4 + 1)] [] (stt g1) K) K)))))) : AW Γ l mX12_odds (d + 2) b 43 [vR 171, vI x1, vI y2, vI y3, vI y4] [] (stt g) K := by
  refine aw_iload (i := 4) (by decide +kernel) rfl ?_
  refine aw_aload_n (k' := 0) (by decide +kernel) rfl ?_
  refine aw_callV (y := yX12_people) (M2 := mX12_people) (as := []) (S := [vI y4]) (t := 171) (d2 := (d + 1)) (b2 := 0) (b3 := b) cwX12_people mlX12_87 imX12_people seX12_people (by decide +kernel) rfl (ci := 10) rfl (OB.at (ci := 10) (show shp 171 = (20, 0) by decide +kernel) (by decide)) (Nat.le_refl _) (Nat.le_of_eq (Nat.zero_add _)) rfl rfl (by simp [oneSlot]) (Nat.le_of_ble_eq_true rfl) (c_people ?_)
  show AW Γ l mX12_odds (d + 2) b 49 [vR 171, vI x1, vI y2, vI y3, vI y4] [vI (g 172 0), vI y4] (stt g) K
  refine ax_icmp_ge (off := 49) (tgt := 98) (x' := wr y4) (y' := wr (g 172 0)) (by decide +kernel) (by decide) rfl rfl (fun hc => ?_) (fun hc => ?_)
  · have hF := hF.1 hc
    refine aw_iinc (i := 3) (n := 1) (by decide +kernel) rfl (by decide) ?_
    show AW Γ l mX12_odds (d + 2) b 101 [vR 171, vI x1, vI y2, vI (y3 + 1), vI y4] [] (stt g) K
    refine aw_goto (off := -66) (tgt := 35) (by decide +kernel) (by decide) ?_
    exact hF
  · have hF := hF.2 hc
    refine aw_aload_n (k' := 0) (by decide +kernel) rfl ?_
    refine aw_iload (i := 4) (by decide +kernel) rfl ?_
    refine aw_iconst (n := 3) (by decide +kernel) ?_
    refine aw_callV (y := yX12_of) (M2 := mX12_of) (as := [vI y4, vI 3]) (S := []) (t := 171) (d2 := (d + 1)) (b2 := 0) (b3 := b) cwX12_of mlX12_84 imX12_of seX12_of (by decide +kernel) rfl (ci := 10) rfl (OB.at (ci := 10) (show shp 171 = (20, 0) by decide +kernel) (by decide)) (Nat.le_refl _) (Nat.le_of_eq (Nat.zero_add _)) rfl rfl (by simp [oneSlot]) (Nat.le_of_ble_eq_true rfl) (c_of hF.1 ?_)
    show AW Γ l mX12_odds (d + 2) b 59 [vR 171, vI x1, vI y2, vI y3, vI y4] [vI (ofP g y4 3)] (stt g) K
    replace hF := hF.2
    refine aw_iconst (n := 1) (by decide +kernel) ?_
    refine ax_icmp_ne (off := 30) (tgt := 90) (x' := wr (ofP g y4 3)) (y' := 1) (by decide +kernel) (by decide) rfl (by decide +kernel) (fun hc => ?_) (fun hc => ?_)
    · have hF := hF.1 hc
      refine aw_iload_n (k' := 2) (by decide +kernel) rfl ?_
      refine aw_istore_n (k' := 2) (by decide +kernel) (by decide) ?_
      show AW Γ l mX12_odds (d + 2) b 92 [vR 171, vI x1, vI y2, vI y3, vI y4] [] (stt g) K
      refine aw_iinc (i := 4) (n := 1) (by decide +kernel) rfl (by decide) ?_
      show AW Γ l mX12_odds (d + 2) b 95 [vR 171, vI x1, vI y2, vI y3, vI (y4 + 1)] [] (stt g) K
      refine aw_goto (off := -52) (tgt := 43) (by decide +kernel) (by decide) ?_
      exact hF
    · have hF := hF.2 hc
      refine aw_iload_n (k' := 2) (by decide +kernel) rfl ?_
      refine aw_bipush (n := 100) (by decide +kernel) (by decide +kernel) ?_
      refine aw_aload_n (k' := 0) (by decide +kernel) rfl ?_
      refine gfX12_13 rfl (by decide +kernel) (OB.at (ci := 10) (show shp 171 = (20, 0) by decide +kernel) (by decide)) ?_
      refine AW.topR (show RC 171 1 = 172 by decide +kernel) ?_
      refine aw_iconst (n := 3) (by decide +kernel) ?_
      refine ax_iald (i := 3) (by decide +kernel) (isA_lit (show shp 172 = (0, 2184) by decide +kernel) (by decide)) (by decide +kernel) ⟨by decide, by decide⟩ ?_
      refine aw_aload_n (k' := 0) (by decide +kernel) rfl ?_
      refine aw_iload (i := 4) (by decide +kernel) rfl ?_
      refine aw_iconst (n := 2) (by decide +kernel) ?_
      refine aw_callV (y := yX12_of) (M2 := mX12_of) (as := [vI y4, vI 2]) (S := [vI (g 172 3), vI 100, vI y2]) (t := 171) (d2 := (d + 1)) (b2 := 0) (b3 := b) cwX12_of mlX12_84 imX12_of seX12_of (by decide +kernel) rfl (ci := 10) rfl (OB.at (ci := 10) (show shp 171 = (20, 0) by decide +kernel) (by decide)) (Nat.le_refl _) (Nat.le_of_eq (Nat.zero_add _)) rfl rfl (by simp [oneSlot]) (Nat.le_of_ble_eq_true rfl) (c_of hF.1 ?_)
      show AW Γ l mX12_odds (d + 2) b 79 [vR 171, vI x1, vI y2, vI y3, vI y4] [vI (ofP g y4 2), vI (g 172 3), vI 100, vI y2] (stt g) K
      replace hF := hF.2
      refine aw_callS (y := yX12_chanceOf) (M2 := mX12_chanceOf) (as := [vI (g 172 3), vI (ofP g y4 2)]) (S := [vI 100, vI y2]) (d2 := (d + 1)) (b2 := 0) (b3 := b) cwX12_chanceOf mlX12_365 stX12_chanceOf (by decide +kernel) rfl (Nat.le_refl _) (Nat.le_of_eq (Nat.zero_add _)) rfl rfl (by simp [oneSlot]) (Nat.le_of_ble_eq_true rfl) (Ct.mono hF ?_)
      rintro o h' (⟨v1, g1, rfl, rfl, hG⟩ | ⟨E, g, rfl, rfl, hG⟩)
      · show AW Γ l mX12_odds (d + 2) b 82 [vR 171, vI x1, vI y2, vI y3, vI y4] [vI v1, vI 100, vI y2] (stt g1) K
        refine aw_isub (by decide +kernel) ?_
        refine aw_imul (by decide +kernel) ?_
        refine aw_bipush (n := 100) (by decide +kernel) (by decide +kernel) ?_
        refine aw_idiv (by decide +kernel) (by decide +kernel) ?_
        refine aw_goto (off := 4) (tgt := 91) (by decide +kernel) (by decide) ?_
        refine aw_istore_n (k' := 2) (by decide +kernel) (by decide) ?_
        show AW Γ l mX12_odds (d + 2) b 92 [vR 171, vI x1, vI (iDiv (y2 * (100 - v1)) 100), vI y3, vI y4] [] (stt g1) K
        refine aw_iinc (i := 4) (n := 1) (by decide +kernel) rfl (by decide) ?_
        show AW Γ l mX12_odds (d + 2) b 95 [vR 171, vI x1, vI (iDiv (y2 * (100 - v1)) 100), vI y3, vI (y4 + 1)] [] (stt g1) K
        refine aw_goto (off := -52) (tgt := 43) (by decide +kernel) (by decide) ?_
        exact hG
      · exact hG

set_option maxHeartbeats 1000000 in
theorem wpX12_amountOf {Γ : Cfg} {l : Launch} {d b : Nat} {g : GG} {K : Ou → HP → Prop} {x1 : Int} {x2 : Int} (hF : (¬ wr x1 = 0 → (¬ wr x1 = 1 → (okP x2 2) ∧ (K (.inl (vI (ofP g x2 2))) (stt g))) ∧ (¬ (¬ wr x1 = 1) → Ct Γ l (d + 1) 0 yX12_heldWeight mX12_heldWeight [vR 171, vI x2] (stt g) (bI (fun v1 g1 => K (.inl (vI v1)) (stt g1)) K))) ∧ (¬ (¬ wr x1 = 0) → (okP x2 0) ∧ (K (.inl (vI (ofP g x2 0))) (stt g)))) : Ct Γ l (d + 2) b yX12_amountOf mX12_amountOf [vR 171, vI x1, vI x2] (stt g) K := by
  refine Ct.enter (L := [vR 171, vI x1, vI x2]) rfl rfl rfl (by decide +kernel) (by simp [oneSlot]) (Nat.le_of_ble_eq_true rfl) rfl ?_
  refine aw_iload_n (k' := 1) (by decide +kernel) rfl ?_
  refine ax_if_ne (off := 12) (tgt := 13) (x' := wr x1) (by decide +kernel) (by decide) rfl (fun hc => ?_) (fun hc => ?_)
  · have hF := hF.1 hc
    refine aw_iload_n (k' := 1) (by decide +kernel) rfl ?_
    refine aw_iconst (n := 1) (by decide +kernel) ?_
    refine ax_icmp_ne (off := 11) (tgt := 26) (x' := wr x1) (y' := 1) (by decide +kernel) (by decide) rfl (by decide +kernel) (fun hc => ?_) (fun hc => ?_)
    · have hF := hF.1 hc
      refine aw_aload_n (k' := 0) (by decide +kernel) rfl ?_
      refine aw_iload_n (k' := 2) (by decide +kernel) rfl ?_
      refine aw_iconst (n := 2) (by decide +kernel) ?_
      refine aw_callV (y := yX12_of) (M2 := mX12_of) (as := [vI x2, vI 2]) (S := []) (t := 171) (d2 := (d + 1)) (b2 := 0) (b3 := b) cwX12_of mlX12_84 imX12_of seX12_of (by decide +kernel) rfl (ci := 10) rfl (OB.at (ci := 10) (show shp 171 = (20, 0) by decide +kernel) (by decide)) (Nat.le_refl _) (Nat.le_of_eq (Nat.zero_add _)) rfl rfl (by simp [oneSlot]) (Nat.le_of_ble_eq_true rfl) (c_of hF.1 ?_)
      show AW Γ l mX12_amountOf (d + 2) b 32 [vR 171, vI x1, vI x2] [vI (ofP g x2 2)] (stt g) K
      replace hF := hF.2
      exact aw_iret (by decide +kernel) rfl hF
    · have hF := hF.2 hc
      refine aw_aload_n (k' := 0) (by decide +kernel) rfl ?_
      refine aw_iload_n (k' := 2) (by decide +kernel) rfl ?_
      refine aw_callV (y := yX12_heldWeight) (M2 := mX12_heldWeight) (as := [vI x2]) (S := []) (t := 171) (d2 := (d + 1)) (b2 := 0) (b3 := b) cwX12_heldWeight mlX12_383 imX12_heldWeight seX12_heldWeight (by decide +kernel) rfl (ci := 10) rfl (OB.at (ci := 10) (show shp 171 = (20, 0) by decide +kernel) (by decide)) (Nat.le_refl _) (Nat.le_of_eq (Nat.zero_add _)) rfl rfl (by simp [oneSlot]) (Nat.le_of_ble_eq_true rfl) (Ct.mono hF ?_)
      rintro o h' (⟨v1, g1, rfl, rfl, hG⟩ | ⟨E, g, rfl, rfl, hG⟩)
      · show AW Γ l mX12_amountOf (d + 2) b 23 [vR 171, vI x1, vI x2] [vI v1] (stt g1) K
        refine aw_goto (off := 9) (tgt := 32) (by decide +kernel) (by decide) ?_
        exact aw_iret (by decide +kernel) rfl hG
      · exact hG
  · have hF := hF.2 hc
    refine aw_aload_n (k' := 0) (by decide +kernel) rfl ?_
    refine aw_iload_n (k' := 2) (by decide +kernel) rfl ?_
    refine aw_iconst (n := 0) (by decide +kernel) ?_
    refine aw_callV (y := yX12_of) (M2 := mX12_of) (as := [vI x2, vI 0]) (S := []) (t := 171) (d2 := (d + 1)) (b2 := 0) (b3 := b) cwX12_of mlX12_84 imX12_of seX12_of (by decide +kernel) rfl (ci := 10) rfl (OB.at (ci := 10) (show shp 171 = (20, 0) by decide +kernel) (by decide)) (Nat.le_refl _) (Nat.le_of_eq (Nat.zero_add _)) rfl rfl (by simp [oneSlot]) (Nat.le_of_ble_eq_true rfl) (c_of hF.1 ?_)
    show AW Γ l mX12_amountOf (d + 2) b 10 [vR 171, vI x1, vI x2] [vI (ofP g x2 0)] (stt g) K
    replace hF := hF.2
    refine aw_goto (off := 22) (tgt := 32) (by decide +kernel) (by decide) ?_
    exact aw_iret (by decide +kernel) rfl hF

set_option maxHeartbeats 1000000 in
theorem wpX12_most {Γ : Cfg} {l : Launch} {d b : Nat} {g : GG} {K : Ou → HP → Prop} {x1 : Int} (hF : (0 ≤ wr x1 ∧ wr x1 ≤ 2 → AW Γ l mX12_most (d + 1) b 33 [vR 171, vI x1, vI (-1), vI 0] [] (stt (upd2 g 171 0 0)) K) ∧ (¬ (0 ≤ wr x1 ∧ wr x1 ≤ 2) → K (.inl (vI 0)) (stt (upd2 (upd2 g 171 0 0) 171 0 1)))) : Ct Γ l (d + 1) b yX12_most mX12_most [vR 171, vI x1] (stt g) K := by
  refine Ct.enter (L := [vR 171, vI x1, vU, vU]) rfl rfl rfl (by decide +kernel) (by simp [oneSlot]) (Nat.le_of_ble_eq_true rfl) rfl ?_
  refine aw_aload_n (k' := 0) (by decide +kernel) rfl ?_
  refine aw_iconst (n := 0) (by decide +kernel) ?_
  refine pfX12_3 rfl (by decide +kernel) (OB.at (ci := 10) (show shp 171 = (20, 0) by decide +kernel) (by decide)) ?_
  show AW Γ l mX12_most (d + 1) b 5 [vR 171, vI x1, vU, vU] [] (stt (upd2 g 171 0 0)) K
  refine aw_aload_n (k' := 0) (by decide +kernel) rfl ?_
  refine aw_iload_n (k' := 1) (by decide +kernel) rfl ?_
  refine aw_iconst (n := 0) (by decide +kernel) ?_
  refine aw_iconst (n := 2) (by decide +kernel) ?_
  refine aw_callS (y := yX12_in) (M2 := mX12_in) (as := [vI x1, vI 0, vI 2]) (S := [vR 171]) (d2 := d) (b2 := 0) (b3 := b) cwX12_in mlX12_91 stX12_in (by decide +kernel) rfl (Nat.le_refl _) (Nat.le_of_eq (Nat.zero_add _)) rfl rfl (by simp [oneSlot]) (Nat.le_of_ble_eq_true rfl) (c_in (x' := wr x1) (y' := 0) (z' := 2) rfl (by decide +kernel) (by decide +kernel) (fun hc => ?_) (fun hc => ?_))
  · have hF := hF.1 hc
    show AW Γ l mX12_most (d + 1) b 12 [vR 171, vI x1, vU, vU] [vI 1, vR 171] (stt (upd2 g 171 0 0)) K
    refine ax_if_ne (off := 7) (tgt := 19) (x' := 1) (by decide +kernel) (by decide) (by decide +kernel) (fun hc => ?_) (fun hc => absurd (by decide) hc)
    refine aw_iconst (n := 0) (by decide +kernel) ?_
    refine aw_iconst (n := 1) (by decide +kernel) ?_
    refine aw_callV (y := yX12_throwsIf) (M2 := mX12_throwsIf) (as := [vI 0, vI 1]) (S := []) (t := 171) (d2 := d) (b2 := 0) (b3 := b) cwX12_throwsIf mlX12_279 imX12_throwsIf seX12_throwsIf (by decide +kernel) rfl (ci := 10) rfl (OB.at (ci := 10) (show shp 171 = (20, 0) by decide +kernel) (by decide)) (Nat.le_refl _) (Nat.le_of_eq (Nat.zero_add _)) rfl rfl (by simp [oneSlot]) (Nat.le_of_ble_eq_true rfl) (c_throwsIf0 ?_)
    show AW Γ l mX12_most (d + 1) b 24 [vR 171, vI x1, vU, vU] [vI 0] (stt (upd2 g 171 0 0)) K
    refine ax_if_eq (off := 5) (tgt := 29) (x' := 0) (by decide +kernel) (by decide) (by decide +kernel) (fun hc => ?_) (fun hc => absurd (by decide) hc)
    refine aw_iconst (n := -1) (by decide +kernel) ?_
    refine aw_istore_n (k' := 2) (by decide +kernel) (by decide) ?_
    show AW Γ l mX12_most (d + 1) b 31 [vR 171, vI x1, vI (-1), vU] [] (stt (upd2 g 171 0 0)) K
    refine aw_iconst (n := 0) (by decide +kernel) ?_
    refine aw_istore_n (k' := 3) (by decide +kernel) (by decide) ?_
    show AW Γ l mX12_most (d + 1) b 33 [vR 171, vI x1, vI (-1), vI 0] [] (stt (upd2 g 171 0 0)) K
    exact hF
  · have hF := hF.2 hc
    show AW Γ l mX12_most (d + 1) b 12 [vR 171, vI x1, vU, vU] [vI 0, vR 171] (stt (upd2 g 171 0 0)) K
    refine ax_if_ne (off := 7) (tgt := 19) (x' := 0) (by decide +kernel) (by decide) (by decide +kernel) (fun hc => absurd hc (by decide)) (fun hc => ?_)
    refine aw_iconst (n := 1) (by decide +kernel) ?_
    refine aw_goto (off := 4) (tgt := 20) (by decide +kernel) (by decide) ?_
    refine aw_iconst (n := 1) (by decide +kernel) ?_
    refine aw_callV (y := yX12_throwsIf) (M2 := mX12_throwsIf) (as := [vI 1, vI 1]) (S := []) (t := 171) (d2 := d) (b2 := 0) (b3 := b) cwX12_throwsIf mlX12_279 imX12_throwsIf seX12_throwsIf (by decide +kernel) rfl (ci := 10) rfl (OB.at (ci := 10) (show shp 171 = (20, 0) by decide +kernel) (by decide)) (Nat.le_refl _) (Nat.le_of_eq (Nat.zero_add _)) rfl rfl (by simp [oneSlot]) (Nat.le_of_ble_eq_true rfl) (c_throwsIf1 ?_)
    show AW Γ l mX12_most (d + 1) b 24 [vR 171, vI x1, vU, vU] [vI 1] (stt (upd2 (upd2 g 171 0 0) 171 0 1)) K
    refine ax_if_eq (off := 5) (tgt := 29) (x' := 1) (by decide +kernel) (by decide) (by decide +kernel) (fun hc => absurd hc (by decide)) (fun hc => ?_)
    refine aw_iconst (n := 0) (by decide +kernel) ?_
    exact aw_iret (by decide +kernel) rfl hF
set_option maxHeartbeats 1000000 in
theorem wpX12_most_33 {Γ : Cfg} {l : Launch} {d b : Nat} {g : GG} {K : Ou → HP → Prop} {x1 : Int} {y2 : Int} {y3 : Int} (hF : (wr (g 172 0) ≤ wr y3 → K (.inl (vI y2)) (stt g)) ∧ (¬ (wr (g 172 0) ≤ wr y3) → (wr y2 = -1 → AW Γ l mX12_most (d + 1) b 33 [vR 171, vI x1, vI y3, vI (y3 + 1)] [] (stt g) K) ∧ (¬ (wr y2 = -1) → Ct Γ l d 0 yX12_amountOf mX12_amountOf [vR 171, vI x1, vI y3] (stt g) (bI (fun v1 g1 => Ct Γ l d 0 yX12_amountOf mX12_amountOf [vR 171, vI x1, vI y2] (stt g1) (bI (fun v2 g2 => (wr v1 ≤ wr v2 → AW Γ l mX12_most (d + 1) b 33 [vR 171, vI x1, vI y2, vI (y3 + 1)] [] (stt g2) K) ∧ (¬ (wr v1 ≤ wr v2) → AW Γ l mX12_most (d + 1) b 33 [vR 171, vI x1, vI y3, vI (y3 + 1)] [] (stt g2) K)) K)) K)))) : AW Γ l mX12_most (d + 1) b 33 [vR 171, vI x1, vI y2, vI y3] [] (stt g) K := by
  refine aw_iload_n (k' := 3) (by decide +kernel) rfl ?_
  refine aw_aload_n (k' := 0) (by decide +kernel) rfl ?_
  refine aw_callV (y := yX12_people) (M2 := mX12_people) (as := []) (S := [vI y3]) (t := 171) (d2 := d) (b2 := 0) (b3 := b) cwX12_people mlX12_87 imX12_people seX12_people (by decide +kernel) rfl (ci := 10) rfl (OB.at (ci := 10) (show shp 171 = (20, 0) by decide +kernel) (by decide)) (Nat.le_refl _) (Nat.le_of_eq (Nat.zero_add _)) rfl rfl (by simp [oneSlot]) (Nat.le_of_ble_eq_true rfl) (c_people ?_)
  show AW Γ l mX12_most (d + 1) b 38 [vR 171, vI x1, vI y2, vI y3] [vI (g 172 0), vI y3] (stt g) K
  refine ax_icmp_ge (off := 35) (tgt := 73) (x' := wr y3) (y' := wr (g 172 0)) (by decide +kernel) (by decide) rfl rfl (fun hc => ?_) (fun hc => ?_)
  · have hF := hF.1 hc
    refine aw_iload_n (k' := 2) (by decide +kernel) rfl ?_
    exact aw_iret (by decide +kernel) rfl hF
  · have hF := hF.2 hc
    refine aw_iload_n (k' := 2) (by decide +kernel) rfl ?_
    refine aw_iconst (n := -1) (by decide +kernel) ?_
    refine ax_icmp_eq (off := 18) (tgt := 61) (x' := wr y2) (y' := -1) (by decide +kernel) (by decide) rfl (by decide +kernel) (fun hc => ?_) (fun hc => ?_)
    · have hF := hF.1 hc
      refine aw_iload_n (k' := 3) (by decide +kernel) rfl ?_
      refine aw_goto (off := 4) (tgt := 66) (by decide +kernel) (by decide) ?_
      refine aw_istore_n (k' := 2) (by decide +kernel) (by decide) ?_
      show AW Γ l mX12_most (d + 1) b 67 [vR 171, vI x1, vI y3, vI y3] [] (stt g) K
      refine aw_iinc (i := 3) (n := 1) (by decide +kernel) rfl (by decide) ?_
      show AW Γ l mX12_most (d + 1) b 70 [vR 171, vI x1, vI y3, vI (y3 + 1)] [] (stt g) K
      refine aw_goto (off := -37) (tgt := 33) (by decide +kernel) (by decide) ?_
      exact hF
    · have hF := hF.2 hc
      refine aw_aload_n (k' := 0) (by decide +kernel) rfl ?_
      refine aw_iload_n (k' := 1) (by decide +kernel) rfl ?_
      refine aw_iload_n (k' := 3) (by decide +kernel) rfl ?_
      refine aw_callV (y := yX12_amountOf) (M2 := mX12_amountOf) (as := [vI x1, vI y3]) (S := []) (t := 171) (d2 := d) (b2 := 0) (b3 := b) cwX12_amountOf mlX12_490 imX12_amountOf seX12_amountOf (by decide +kernel) rfl (ci := 10) rfl (OB.at (ci := 10) (show shp 171 = (20, 0) by decide +kernel) (by decide)) (Nat.le_refl _) (Nat.le_of_eq (Nat.zero_add _)) rfl rfl (by simp [oneSlot]) (Nat.le_of_ble_eq_true rfl) (Ct.mono hF ?_)
      rintro o h' (⟨v1, g1, rfl, rfl, hG⟩ | ⟨E, g, rfl, rfl, hG⟩)
      · show AW Γ l mX12_most (d + 1) b 52 [vR 171, vI x1, vI y2, vI y3] [vI v1] (stt g1) K
        refine aw_aload_n (k' := 0) (by decide +kernel) rfl ?_
        refine aw_iload_n (k' := 1) (by decide +kernel) rfl ?_
        refine aw_iload_n (k' := 2) (by decide +kernel) rfl ?_
        refine aw_callV (y := yX12_amountOf) (M2 := mX12_amountOf) (as := [vI x1, vI y2]) (S := [vI v1]) (t := 171) (d2 := d) (b2 := 0) (b3 := b) cwX12_amountOf mlX12_490 imX12_amountOf seX12_amountOf (by decide +kernel) rfl (ci := 10) rfl (OB.at (ci := 10) (show shp 171 = (20, 0) by decide +kernel) (by decide)) (Nat.le_refl _) (Nat.le_of_eq (Nat.zero_add _)) rfl rfl (by simp [oneSlot]) (Nat.le_of_ble_eq_true rfl) (Ct.mono hG ?_)
        rintro o h' (⟨v2, g2, rfl, rfl, hG⟩ | ⟨E, g, rfl, rfl, hG⟩)
        · show AW Γ l mX12_most (d + 1) b 58 [vR 171, vI x1, vI y2, vI y3] [vI v2, vI v1] (stt g2) K
          refine ax_icmp_le (off := 7) (tgt := 65) (x' := wr v1) (y' := wr v2) (by decide +kernel) (by decide) rfl rfl (fun hc => ?_) (fun hc => ?_)
          · have hG := hG.1 hc
            refine aw_iload_n (k' := 2) (by decide +kernel) rfl ?_
            refine aw_istore_n (k' := 2) (by decide +kernel) (by decide) ?_
            show AW Γ l mX12_most (d + 1) b 67 [vR 171, vI x1, vI y2, vI y3] [] (stt g2) K
            refine aw_iinc (i := 3) (n := 1) (by decide +kernel) rfl (by decide) ?_
            show AW Γ l mX12_most (d + 1) b 70 [vR 171, vI x1, vI y2, vI (y3 + 1)] [] (stt g2) K
            refine aw_goto (off := -37) (tgt := 33) (by decide +kernel) (by decide) ?_
            exact hG
          · have hG := hG.2 hc
            refine aw_iload_n (k' := 3) (by decide +kernel) rfl ?_
            refine aw_goto (off := 4) (tgt := 66) (by decide +kernel) (by decide) ?_
            refine aw_istore_n (k' := 2) (by decide +kernel) (by decide) ?_
            show AW Γ l mX12_most (d + 1) b 67 [vR 171, vI x1, vI y3, vI y3] [] (stt g2) K
            refine aw_iinc (i := 3) (n := 1) (by decide +kernel) rfl (by decide) ?_
            show AW Γ l mX12_most (d + 1) b 70 [vR 171, vI x1, vI y3, vI (y3 + 1)] [] (stt g2) K
            refine aw_goto (off := -37) (tgt := 33) (by decide +kernel) (by decide) ?_
            exact hG
        · exact hG
      · exact hG

set_option maxHeartbeats 1000000 in
theorem wpX12_which {Γ : Cfg} {l : Launch} {d b : Nat} {g : GG} {K : Ou → HP → Prop} {x1 : Int} (hF : (0 ≤ wr x1 ∧ wr x1 ≤ 2 → Ct Γ l d 0 yX12_allIn mX12_allIn [vR 171, vI x1] (stt (upd2 g 171 0 0)) (bI (fun v1 g1 => K (.inl (vI v1)) (stt g1)) K)) ∧ (¬ (0 ≤ wr x1 ∧ wr x1 ≤ 2) → K (.inl (vI 0)) (stt (upd2 (upd2 g 171 0 0) 171 0 1)))) : Ct Γ l (d + 1) b yX12_which mX12_which [vR 171, vI x1] (stt g) K := by
  refine Ct.enter (L := [vR 171, vI x1]) rfl rfl rfl (by decide +kernel) (by simp [oneSlot]) (Nat.le_of_ble_eq_true rfl) rfl ?_
  refine aw_aload_n (k' := 0) (by decide +kernel) rfl ?_
  refine aw_iconst (n := 0) (by decide +kernel) ?_
  refine pfX12_3 rfl (by decide +kernel) (OB.at (ci := 10) (show shp 171 = (20, 0) by decide +kernel) (by decide)) ?_
  show AW Γ l mX12_which (d + 1) b 5 [vR 171, vI x1] [] (stt (upd2 g 171 0 0)) K
  refine aw_aload_n (k' := 0) (by decide +kernel) rfl ?_
  refine aw_iload_n (k' := 1) (by decide +kernel) rfl ?_
  refine aw_iconst (n := 0) (by decide +kernel) ?_
  refine aw_iconst (n := 2) (by decide +kernel) ?_
  refine aw_callS (y := yX12_in) (M2 := mX12_in) (as := [vI x1, vI 0, vI 2]) (S := [vR 171]) (d2 := d) (b2 := 0) (b3 := b) cwX12_in mlX12_91 stX12_in (by decide +kernel) rfl (Nat.le_refl _) (Nat.le_of_eq (Nat.zero_add _)) rfl rfl (by simp [oneSlot]) (Nat.le_of_ble_eq_true rfl) (c_in (x' := wr x1) (y' := 0) (z' := 2) rfl (by decide +kernel) (by decide +kernel) (fun hc => ?_) (fun hc => ?_))
  · have hF := hF.1 hc
    show AW Γ l mX12_which (d + 1) b 12 [vR 171, vI x1] [vI 1, vR 171] (stt (upd2 g 171 0 0)) K
    refine ax_if_ne (off := 7) (tgt := 19) (x' := 1) (by decide +kernel) (by decide) (by decide +kernel) (fun hc => ?_) (fun hc => absurd (by decide) hc)
    refine aw_iconst (n := 0) (by decide +kernel) ?_
    refine aw_iconst (n := 1) (by decide +kernel) ?_
    refine aw_callV (y := yX12_throwsIf) (M2 := mX12_throwsIf) (as := [vI 0, vI 1]) (S := []) (t := 171) (d2 := d) (b2 := 0) (b3 := b) cwX12_throwsIf mlX12_279 imX12_throwsIf seX12_throwsIf (by decide +kernel) rfl (ci := 10) rfl (OB.at (ci := 10) (show shp 171 = (20, 0) by decide +kernel) (by decide)) (Nat.le_refl _) (Nat.le_of_eq (Nat.zero_add _)) rfl rfl (by simp [oneSlot]) (Nat.le_of_ble_eq_true rfl) (c_throwsIf0 ?_)
    show AW Γ l mX12_which (d + 1) b 24 [vR 171, vI x1] [vI 0] (stt (upd2 g 171 0 0)) K
    refine ax_if_eq (off := 7) (tgt := 31) (x' := 0) (by decide +kernel) (by decide) (by decide +kernel) (fun hc => ?_) (fun hc => absurd (by decide) hc)
    refine aw_aload_n (k' := 0) (by decide +kernel) rfl ?_
    refine aw_iload_n (k' := 1) (by decide +kernel) rfl ?_
    refine aw_callV (y := yX12_allIn) (M2 := mX12_allIn) (as := [vI x1]) (S := []) (t := 171) (d2 := d) (b2 := 0) (b3 := b) cwX12_allIn mlX12_355 imX12_allIn seX12_allIn (by decide +kernel) rfl (ci := 10) rfl (OB.at (ci := 10) (show shp 171 = (20, 0) by decide +kernel) (by decide)) (Nat.le_refl _) (Nat.le_of_eq (Nat.zero_add _)) rfl rfl (by simp [oneSlot]) (Nat.le_of_ble_eq_true rfl) (Ct.mono hF ?_)
    rintro o h' (⟨v1, g1, rfl, rfl, hG⟩ | ⟨E, g, rfl, rfl, hG⟩)
    · show AW Γ l mX12_which (d + 1) b 36 [vR 171, vI x1] [vI v1] (stt g1) K
      exact aw_iret (by decide +kernel) rfl hG
    · exact hG
  · have hF := hF.2 hc
    show AW Γ l mX12_which (d + 1) b 12 [vR 171, vI x1] [vI 0, vR 171] (stt (upd2 g 171 0 0)) K
    refine ax_if_ne (off := 7) (tgt := 19) (x' := 0) (by decide +kernel) (by decide) (by decide +kernel) (fun hc => absurd hc (by decide)) (fun hc => ?_)
    refine aw_iconst (n := 1) (by decide +kernel) ?_
    refine aw_goto (off := 4) (tgt := 20) (by decide +kernel) (by decide) ?_
    refine aw_iconst (n := 1) (by decide +kernel) ?_
    refine aw_callV (y := yX12_throwsIf) (M2 := mX12_throwsIf) (as := [vI 1, vI 1]) (S := []) (t := 171) (d2 := d) (b2 := 0) (b3 := b) cwX12_throwsIf mlX12_279 imX12_throwsIf seX12_throwsIf (by decide +kernel) rfl (ci := 10) rfl (OB.at (ci := 10) (show shp 171 = (20, 0) by decide +kernel) (by decide)) (Nat.le_refl _) (Nat.le_of_eq (Nat.zero_add _)) rfl rfl (by simp [oneSlot]) (Nat.le_of_ble_eq_true rfl) (c_throwsIf1 ?_)
    show AW Γ l mX12_which (d + 1) b 24 [vR 171, vI x1] [vI 1] (stt (upd2 (upd2 g 171 0 0) 171 0 1)) K
    refine ax_if_eq (off := 7) (tgt := 31) (x' := 1) (by decide +kernel) (by decide) (by decide +kernel) (fun hc => absurd hc (by decide)) (fun hc => ?_)
    refine aw_iconst (n := 0) (by decide +kernel) ?_
    refine aw_goto (off := 8) (tgt := 36) (by decide +kernel) (by decide) ?_
    exact aw_iret (by decide +kernel) rfl hF

set_option maxHeartbeats 1000000 in
theorem wpX12_twins {Γ : Cfg} {l : Launch} {d b : Nat} {g : GG} {K : Ou → HP → Prop}  (hF : AW Γ l mX12_twins (d + 2) b 9 [vR 171, vI 0, vI 0, vU] [] (stt (upd2 g 171 0 0)) K) : Ct Γ l (d + 2) b yX12_twins mX12_twins [vR 171] (stt g) K := by
  refine Ct.enter (L := [vR 171, vU, vU, vU]) rfl rfl rfl (by decide +kernel) (by simp [oneSlot]) (Nat.le_of_ble_eq_true rfl) rfl ?_
  refine aw_aload_n (k' := 0) (by decide +kernel) rfl ?_
  refine aw_iconst (n := 0) (by decide +kernel) ?_
  refine pfX12_3 rfl (by decide +kernel) (OB.at (ci := 10) (show shp 171 = (20, 0) by decide +kernel) (by decide)) ?_
  show AW Γ l mX12_twins (d + 2) b 5 [vR 171, vU, vU, vU] [] (stt (upd2 g 171 0 0)) K
  refine aw_iconst (n := 0) (by decide +kernel) ?_
  refine aw_istore_n (k' := 1) (by decide +kernel) (by decide) ?_
  show AW Γ l mX12_twins (d + 2) b 7 [vR 171, vI 0, vU, vU] [] (stt (upd2 g 171 0 0)) K
  refine aw_iconst (n := 0) (by decide +kernel) ?_
  refine aw_istore_n (k' := 2) (by decide +kernel) (by decide) ?_
  show AW Γ l mX12_twins (d + 2) b 9 [vR 171, vI 0, vI 0, vU] [] (stt (upd2 g 171 0 0)) K
  exact hF
set_option maxHeartbeats 1000000 in
theorem wpX12_twins_9 {Γ : Cfg} {l : Launch} {d b : Nat} {g : GG} {K : Ou → HP → Prop} {y1 : Int} {y2 : Int} (hF : (wr (g 172 0) ≤ wr y2 → K (.inl (vI y1)) (stt g)) ∧ (¬ (wr (g 172 0) ≤ wr y2) → AW Γ l mX12_twins (d + 2) b 19 [vR 171, vI y1, vI y2, vI 0] [] (stt g) K)) : AW Γ l mX12_twins (d + 2) b 9 [vR 171, vI y1, vI y2, vU] [] (stt g) K := by
  refine aw_iload_n (k' := 2) (by decide +kernel) rfl ?_
  refine aw_aload_n (k' := 0) (by decide +kernel) rfl ?_
  refine aw_callV (y := yX12_people) (M2 := mX12_people) (as := []) (S := [vI y2]) (t := 171) (d2 := (d + 1)) (b2 := 0) (b3 := b) cwX12_people mlX12_87 imX12_people seX12_people (by decide +kernel) rfl (ci := 10) rfl (OB.at (ci := 10) (show shp 171 = (20, 0) by decide +kernel) (by decide)) (Nat.le_refl _) (Nat.le_of_eq (Nat.zero_add _)) rfl rfl (by simp [oneSlot]) (Nat.le_of_ble_eq_true rfl) (c_people ?_)
  show AW Γ l mX12_twins (d + 2) b 14 [vR 171, vI y1, vI y2, vU] [vI (g 172 0), vI y2] (stt g) K
  refine ax_icmp_ge (off := 60) (tgt := 74) (x' := wr y2) (y' := wr (g 172 0)) (by decide +kernel) (by decide) rfl rfl (fun hc => ?_) (fun hc => ?_)
  · have hF := hF.1 hc
    refine aw_iload_n (k' := 1) (by decide +kernel) rfl ?_
    exact aw_iret (by decide +kernel) rfl hF
  · have hF := hF.2 hc
    refine aw_iconst (n := 0) (by decide +kernel) ?_
    refine aw_istore_n (k' := 3) (by decide +kernel) (by decide) ?_
    show AW Γ l mX12_twins (d + 2) b 19 [vR 171, vI y1, vI y2, vI 0] [] (stt g) K
    exact hF
set_option maxHeartbeats 1000000 in
theorem wpX12_twins_19 {Γ : Cfg} {l : Launch} {d b : Nat} {g : GG} {K : Ou → HP → Prop} {y1 : Int} {y2 : Int} {y3 : Int} (hF : (wr y2 ≤ wr y3 → AW Γ l mX12_twins (d + 2) b 9 [vR 171, vI y1, vI (y2 + 1), vI y3] [] (stt g) K) ∧ (¬ (wr y2 ≤ wr y3) → (okP y2 0) ∧ ((okP y3 0) ∧ ((¬ wr (ofP g y2 0) = wr (ofP g y3 0) → AW Γ l mX12_twins (d + 2) b 19 [vR 171, vI (y1 + 0), vI y2, vI (y3 + 1)] [] (stt g) K) ∧ (¬ (¬ wr (ofP g y2 0) = wr (ofP g y3 0)) → Ct Γ l (d + 1) 0 yX12_alikeOf mX12_alikeOf [vR 171, vI y2, vI y3] (stt g) (bI (fun v1 g1 => (okP y2 0) ∧ ((¬ wr v1 = wr (ofP g1 y2 0) → AW Γ l mX12_twins (d + 2) b 19 [vR 171, vI (y1 + 0), vI y2, vI (y3 + 1)] [] (stt g1) K) ∧ (¬ (¬ wr v1 = wr (ofP g1 y2 0)) → AW Γ l mX12_twins (d + 2) b 19 [vR 171, vI (y1 + 1), vI y2, vI (y3 + 1)] [] (stt g1) K))) K)))))) : AW Γ l mX12_twins (d + 2) b 19 [vR 171, vI y1, vI y2, vI y3] [] (stt g) K := by
  refine aw_iload_n (k' := 3) (by decide +kernel) rfl ?_
  refine aw_iload_n (k' := 2) (by decide +kernel) rfl ?_
  refine ax_icmp_ge (off := 47) (tgt := 68) (x' := wr y3) (y' := wr y2) (by decide +kernel) (by decide) rfl rfl (fun hc => ?_) (fun hc => ?_)
  · have hF := hF.1 hc
    refine aw_iinc (i := 2) (n := 1) (by decide +kernel) rfl (by decide) ?_
    show AW Γ l mX12_twins (d + 2) b 71 [vR 171, vI y1, vI (y2 + 1), vI y3] [] (stt g) K
    refine aw_goto (off := -62) (tgt := 9) (by decide +kernel) (by decide) ?_
    exact hF
  · have hF := hF.2 hc
    refine aw_iload_n (k' := 1) (by decide +kernel) rfl ?_
    refine aw_aload_n (k' := 0) (by decide +kernel) rfl ?_
    refine aw_iload_n (k' := 2) (by decide +kernel) rfl ?_
    refine aw_iconst (n := 0) (by decide +kernel) ?_
    refine aw_callV (y := yX12_of) (M2 := mX12_of) (as := [vI y2, vI 0]) (S := [vI y1]) (t := 171) (d2 := (d + 1)) (b2 := 0) (b3 := b) cwX12_of mlX12_84 imX12_of seX12_of (by decide +kernel) rfl (ci := 10) rfl (OB.at (ci := 10) (show shp 171 = (20, 0) by decide +kernel) (by decide)) (Nat.le_refl _) (Nat.le_of_eq (Nat.zero_add _)) rfl rfl (by simp [oneSlot]) (Nat.le_of_ble_eq_true rfl) (c_of hF.1 ?_)
    show AW Γ l mX12_twins (d + 2) b 31 [vR 171, vI y1, vI y2, vI y3] [vI (ofP g y2 0), vI y1] (stt g) K
    replace hF := hF.2
    refine aw_aload_n (k' := 0) (by decide +kernel) rfl ?_
    refine aw_iload_n (k' := 3) (by decide +kernel) rfl ?_
    refine aw_iconst (n := 0) (by decide +kernel) ?_
    refine aw_callV (y := yX12_of) (M2 := mX12_of) (as := [vI y3, vI 0]) (S := [vI (ofP g y2 0), vI y1]) (t := 171) (d2 := (d + 1)) (b2 := 0) (b3 := b) cwX12_of mlX12_84 imX12_of seX12_of (by decide +kernel) rfl (ci := 10) rfl (OB.at (ci := 10) (show shp 171 = (20, 0) by decide +kernel) (by decide)) (Nat.le_refl _) (Nat.le_of_eq (Nat.zero_add _)) rfl rfl (by simp [oneSlot]) (Nat.le_of_ble_eq_true rfl) (c_of hF.1 ?_)
    show AW Γ l mX12_twins (d + 2) b 37 [vR 171, vI y1, vI y2, vI y3] [vI (ofP g y3 0), vI (ofP g y2 0), vI y1] (stt g) K
    replace hF := hF.2
    refine ax_icmp_ne (off := 22) (tgt := 59) (x' := wr (ofP g y2 0)) (y' := wr (ofP g y3 0)) (by decide +kernel) (by decide) rfl rfl (fun hc => ?_) (fun hc => ?_)
    · have hF := hF.1 hc
      refine aw_iconst (n := 0) (by decide +kernel) ?_
      refine aw_iadd (by decide +kernel) ?_
      refine aw_istore_n (k' := 1) (by decide +kernel) (by decide) ?_
      show AW Γ l mX12_twins (d + 2) b 62 [vR 171, vI (y1 + 0), vI y2, vI y3] [] (stt g) K
      refine aw_iinc (i := 3) (n := 1) (by decide +kernel) rfl (by decide) ?_
      show AW Γ l mX12_twins (d + 2) b 65 [vR 171, vI (y1 + 0), vI y2, vI (y3 + 1)] [] (stt g) K
      refine aw_goto (off := -46) (tgt := 19) (by decide +kernel) (by decide) ?_
      exact hF
    · have hF := hF.2 hc
      refine aw_aload_n (k' := 0) (by decide +kernel) rfl ?_
      refine aw_iload_n (k' := 2) (by decide +kernel) rfl ?_
      refine aw_iload_n (k' := 3) (by decide +kernel) rfl ?_
      refine aw_callV (y := yX12_alikeOf) (M2 := mX12_alikeOf) (as := [vI y2, vI y3]) (S := [vI y1]) (t := 171) (d2 := (d + 1)) (b2 := 0) (b3 := b) cwX12_alikeOf mlX12_474 imX12_alikeOf seX12_alikeOf (by decide +kernel) rfl (ci := 10) rfl (OB.at (ci := 10) (show shp 171 = (20, 0) by decide +kernel) (by decide)) (Nat.le_refl _) (Nat.le_of_eq (Nat.zero_add _)) rfl rfl (by simp [oneSlot]) (Nat.le_of_ble_eq_true rfl) (Ct.mono hF ?_)
      rintro o h' (⟨v1, g1, rfl, rfl, hG⟩ | ⟨E, g, rfl, rfl, hG⟩)
      · show AW Γ l mX12_twins (d + 2) b 46 [vR 171, vI y1, vI y2, vI y3] [vI v1, vI y1] (stt g1) K
        refine aw_aload_n (k' := 0) (by decide +kernel) rfl ?_
        refine aw_iload_n (k' := 2) (by decide +kernel) rfl ?_
        refine aw_iconst (n := 0) (by decide +kernel) ?_
        refine aw_callV (y := yX12_of) (M2 := mX12_of) (as := [vI y2, vI 0]) (S := [vI v1, vI y1]) (t := 171) (d2 := (d + 1)) (b2 := 0) (b3 := b) cwX12_of mlX12_84 imX12_of seX12_of (by decide +kernel) rfl (ci := 10) rfl (OB.at (ci := 10) (show shp 171 = (20, 0) by decide +kernel) (by decide)) (Nat.le_refl _) (Nat.le_of_eq (Nat.zero_add _)) rfl rfl (by simp [oneSlot]) (Nat.le_of_ble_eq_true rfl) (c_of hG.1 ?_)
        show AW Γ l mX12_twins (d + 2) b 52 [vR 171, vI y1, vI y2, vI y3] [vI (ofP g1 y2 0), vI v1, vI y1] (stt g1) K
        replace hG := hG.2
        refine ax_icmp_ne (off := 7) (tgt := 59) (x' := wr v1) (y' := wr (ofP g1 y2 0)) (by decide +kernel) (by decide) rfl rfl (fun hc => ?_) (fun hc => ?_)
        · have hG := hG.1 hc
          refine aw_iconst (n := 0) (by decide +kernel) ?_
          refine aw_iadd (by decide +kernel) ?_
          refine aw_istore_n (k' := 1) (by decide +kernel) (by decide) ?_
          show AW Γ l mX12_twins (d + 2) b 62 [vR 171, vI (y1 + 0), vI y2, vI y3] [] (stt g1) K
          refine aw_iinc (i := 3) (n := 1) (by decide +kernel) rfl (by decide) ?_
          show AW Γ l mX12_twins (d + 2) b 65 [vR 171, vI (y1 + 0), vI y2, vI (y3 + 1)] [] (stt g1) K
          refine aw_goto (off := -46) (tgt := 19) (by decide +kernel) (by decide) ?_
          exact hG
        · have hG := hG.2 hc
          refine aw_iconst (n := 1) (by decide +kernel) ?_
          refine aw_goto (off := 4) (tgt := 60) (by decide +kernel) (by decide) ?_
          refine aw_iadd (by decide +kernel) ?_
          refine aw_istore_n (k' := 1) (by decide +kernel) (by decide) ?_
          show AW Γ l mX12_twins (d + 2) b 62 [vR 171, vI (y1 + 1), vI y2, vI y3] [] (stt g1) K
          refine aw_iinc (i := 3) (n := 1) (by decide +kernel) rfl (by decide) ?_
          show AW Γ l mX12_twins (d + 2) b 65 [vR 171, vI (y1 + 1), vI y2, vI (y3 + 1)] [] (stt g1) K
          refine aw_goto (off := -46) (tgt := 19) (by decide +kernel) (by decide) ?_
          exact hG
      · exact hG

set_option maxHeartbeats 1000000 in
theorem wpX12_trial {Γ : Cfg} {l : Launch} {d b : Nat} {g : GG} {K : Ou → HP → Prop} {x1 : Int} {x2 : Int} (hF : (¬ (0 ≤ wr x1 ∧ wr x1 ≤ 60) → K (.inl (vI 0)) (stt (upd2 (upd2 g 171 0 0) 171 0 1))) ∧ (¬ (¬ (0 ≤ wr x1 ∧ wr x1 ≤ 60)) → Ct Γ l (d + 1) 0 yX12_inOrder mX12_inOrder [vR 171] (stt (upd2 g 171 0 0)) (bV (fun g1 => Ct Γ l (d + 1) 0 yX12_keepsAll mX12_keepsAll [vR 171] (stt g1) (bV (fun g2 => Ct Γ l (d + 1) 0 yX12_goesOn mX12_goesOn [vR 171, vI x1] (stt g2) (bI (fun v1 g3 => (wr x2 = 0 → Ct Γ l (d + 1) 0 yX12_allIn mX12_allIn [vR 171, vI 2] (stt g3) (bI (fun v2 g4 => Ct Γ l (d + 1) 0 yX12_bringsBack mX12_bringsBack [vR 171] (stt g4) (bV (fun g5 => K (.inl (vI v2)) (stt g5)) K)) K)) ∧ (¬ (wr x2 = 0) → Ct Γ l (d + 1) 0 yX12_bringsBack mX12_bringsBack [vR 171] (stt g3) (bV (fun g6 => K (.inl (vI (g3 172 5))) (stt g6)) K))) K)) K)) K))) : Ct Γ l (d + 2) b yX12_trial mX12_trial [vR 171, vI x1, vI x2] (stt g) K := by
  refine Ct.enter (L := [vR 171, vI x1, vI x2, vU]) rfl rfl rfl (by decide +kernel) (by simp [oneSlot]) (Nat.le_of_ble_eq_true rfl) rfl ?_
  refine aw_aload_n (k' := 0) (by decide +kernel) rfl ?_
  refine aw_iconst (n := 0) (by decide +kernel) ?_
  refine pfX12_3 rfl (by decide +kernel) (OB.at (ci := 10) (show shp 171 = (20, 0) by decide +kernel) (by decide)) ?_
  show AW Γ l mX12_trial (d + 2) b 5 [vR 171, vI x1, vI x2, vU] [] (stt (upd2 g 171 0 0)) K
  refine aw_aload_n (k' := 0) (by decide +kernel) rfl ?_
  refine aw_iload_n (k' := 1) (by decide +kernel) rfl ?_
  refine aw_callS (y := yX12_noHours) (M2 := mX12_noHours) (as := [vI x1]) (S := [vR 171]) (d2 := (d + 1)) (b2 := 0) (b3 := b) cwX12_noHours mlX12_493 stX12_noHours (by decide +kernel) rfl (Nat.le_refl _) (Nat.le_of_eq (Nat.zero_add _)) rfl rfl (by simp [oneSlot]) (Nat.le_of_ble_eq_true rfl) (c_noHours (fun hc => ?_) (fun hc => ?_))
  · have hF := hF.1 hc
    show AW Γ l mX12_trial (d + 2) b 10 [vR 171, vI x1, vI x2, vU] [vI 1, vR 171] (stt (upd2 g 171 0 0)) K
    refine aw_iconst (n := 1) (by decide +kernel) ?_
    refine aw_callV (y := yX12_throwsIf) (M2 := mX12_throwsIf) (as := [vI 1, vI 1]) (S := []) (t := 171) (d2 := (d + 1)) (b2 := 0) (b3 := b) cwX12_throwsIf mlX12_279 imX12_throwsIf seX12_throwsIf (by decide +kernel) rfl (ci := 10) rfl (OB.at (ci := 10) (show shp 171 = (20, 0) by decide +kernel) (by decide)) (Nat.le_refl _) (Nat.le_of_eq (Nat.zero_add _)) rfl rfl (by simp [oneSlot]) (Nat.le_of_ble_eq_true rfl) (c_throwsIf1 ?_)
    show AW Γ l mX12_trial (d + 2) b 14 [vR 171, vI x1, vI x2, vU] [vI 1] (stt (upd2 (upd2 g 171 0 0) 171 0 1)) K
    refine ax_if_eq (off := 5) (tgt := 19) (x' := 1) (by decide +kernel) (by decide) (by decide +kernel) (fun hc => absurd hc (by decide)) (fun hc => ?_)
    refine aw_iconst (n := 0) (by decide +kernel) ?_
    exact aw_iret (by decide +kernel) rfl hF
  · have hF := hF.2 hc
    show AW Γ l mX12_trial (d + 2) b 10 [vR 171, vI x1, vI x2, vU] [vI 0, vR 171] (stt (upd2 g 171 0 0)) K
    refine aw_iconst (n := 1) (by decide +kernel) ?_
    refine aw_callV (y := yX12_throwsIf) (M2 := mX12_throwsIf) (as := [vI 0, vI 1]) (S := []) (t := 171) (d2 := (d + 1)) (b2 := 0) (b3 := b) cwX12_throwsIf mlX12_279 imX12_throwsIf seX12_throwsIf (by decide +kernel) rfl (ci := 10) rfl (OB.at (ci := 10) (show shp 171 = (20, 0) by decide +kernel) (by decide)) (Nat.le_refl _) (Nat.le_of_eq (Nat.zero_add _)) rfl rfl (by simp [oneSlot]) (Nat.le_of_ble_eq_true rfl) (c_throwsIf0 ?_)
    show AW Γ l mX12_trial (d + 2) b 14 [vR 171, vI x1, vI x2, vU] [vI 0] (stt (upd2 g 171 0 0)) K
    refine ax_if_eq (off := 5) (tgt := 19) (x' := 0) (by decide +kernel) (by decide) (by decide +kernel) (fun hc => ?_) (fun hc => absurd (by decide) hc)
    refine aw_aload_n (k' := 0) (by decide +kernel) rfl ?_
    refine aw_callV (y := yX12_inOrder) (M2 := mX12_inOrder) (as := []) (S := []) (t := 171) (d2 := (d + 1)) (b2 := 0) (b3 := b) cwX12_inOrder mlX12_377 imX12_inOrder seX12_inOrder (by decide +kernel) rfl (ci := 10) rfl (OB.at (ci := 10) (show shp 171 = (20, 0) by decide +kernel) (by decide)) (Nat.le_refl _) (Nat.le_of_eq (Nat.zero_add _)) rfl rfl (by simp [oneSlot]) (Nat.le_of_ble_eq_true rfl) (Ct.mono hF ?_)
    rintro o h' (⟨g1, rfl, rfl, hG⟩ | ⟨E, g, rfl, rfl, hG⟩)
    · show AW Γ l mX12_trial (d + 2) b 23 [vR 171, vI x1, vI x2, vU] [] (stt g1) K
      refine aw_aload_n (k' := 0) (by decide +kernel) rfl ?_
      refine aw_callV (y := yX12_keepsAll) (M2 := mX12_keepsAll) (as := []) (S := []) (t := 171) (d2 := (d + 1)) (b2 := 0) (b3 := b) cwX12_keepsAll mlX12_496 imX12_keepsAll seX12_keepsAll (by decide +kernel) rfl (ci := 10) rfl (OB.at (ci := 10) (show shp 171 = (20, 0) by decide +kernel) (by decide)) (Nat.le_refl _) (Nat.le_of_eq (Nat.zero_add _)) rfl rfl (by simp [oneSlot]) (Nat.le_of_ble_eq_true rfl) (Ct.mono hG ?_)
      rintro o h' (⟨g2, rfl, rfl, hG⟩ | ⟨E, g, rfl, rfl, hG⟩)
      · show AW Γ l mX12_trial (d + 2) b 27 [vR 171, vI x1, vI x2, vU] [] (stt g2) K
        refine aw_aload_n (k' := 0) (by decide +kernel) rfl ?_
        refine aw_iload_n (k' := 1) (by decide +kernel) rfl ?_
        refine aw_callV (y := yX12_goesOn) (M2 := mX12_goesOn) (as := [vI x1]) (S := []) (t := 171) (d2 := (d + 1)) (b2 := 0) (b3 := b) cwX12_goesOn mlX12_411 imX12_goesOn seX12_goesOn (by decide +kernel) rfl (ci := 10) rfl (OB.at (ci := 10) (show shp 171 = (20, 0) by decide +kernel) (by decide)) (Nat.le_refl _) (Nat.le_of_eq (Nat.zero_add _)) rfl rfl (by simp [oneSlot]) (Nat.le_of_ble_eq_true rfl) (Ct.mono hG ?_)
        rintro o h' (⟨v1, g3, rfl, rfl, hG⟩ | ⟨E, g, rfl, rfl, hG⟩)
        · show AW Γ l mX12_trial (d + 2) b 32 [vR 171, vI x1, vI x2, vU] [vI v1] (stt g3) K
          refine aw_pop (by decide +kernel) trivial ?_
          refine aw_iload_n (k' := 2) (by decide +kernel) rfl ?_
          refine ax_if_eq (off := 12) (tgt := 46) (x' := wr x2) (by decide +kernel) (by decide) rfl (fun hc => ?_) (fun hc => ?_)
          · have hG := hG.1 hc
            refine aw_aload_n (k' := 0) (by decide +kernel) rfl ?_
            refine aw_iconst (n := 2) (by decide +kernel) ?_
            refine aw_callV (y := yX12_allIn) (M2 := mX12_allIn) (as := [vI 2]) (S := []) (t := 171) (d2 := (d + 1)) (b2 := 0) (b3 := b) cwX12_allIn mlX12_355 imX12_allIn seX12_allIn (by decide +kernel) rfl (ci := 10) rfl (OB.at (ci := 10) (show shp 171 = (20, 0) by decide +kernel) (by decide)) (Nat.le_refl _) (Nat.le_of_eq (Nat.zero_add _)) rfl rfl (by simp [oneSlot]) (Nat.le_of_ble_eq_true rfl) (Ct.mono hG ?_)
            rintro o h' (⟨v2, g4, rfl, rfl, hG⟩ | ⟨E, g, rfl, rfl, hG⟩)
            · show AW Γ l mX12_trial (d + 2) b 51 [vR 171, vI x1, vI x2, vU] [vI v2] (stt g4) K
              refine aw_istore_n (k' := 3) (by decide +kernel) (by decide) ?_
              show AW Γ l mX12_trial (d + 2) b 52 [vR 171, vI x1, vI x2, vI v2] [] (stt g4) K
              refine aw_aload_n (k' := 0) (by decide +kernel) rfl ?_
              refine aw_callV (y := yX12_bringsBack) (M2 := mX12_bringsBack) (as := []) (S := []) (t := 171) (d2 := (d + 1)) (b2 := 0) (b3 := b) cwX12_bringsBack mlX12_499 imX12_bringsBack seX12_bringsBack (by decide +kernel) rfl (ci := 10) rfl (OB.at (ci := 10) (show shp 171 = (20, 0) by decide +kernel) (by decide)) (Nat.le_refl _) (Nat.le_of_eq (Nat.zero_add _)) rfl rfl (by simp [oneSlot]) (Nat.le_of_ble_eq_true rfl) (Ct.mono hG ?_)
              rintro o h' (⟨g5, rfl, rfl, hG⟩ | ⟨E, g, rfl, rfl, hG⟩)
              · show AW Γ l mX12_trial (d + 2) b 56 [vR 171, vI x1, vI x2, vI v2] [] (stt g5) K
                refine aw_iload_n (k' := 3) (by decide +kernel) rfl ?_
                exact aw_iret (by decide +kernel) rfl hG
              · exact hG
            · exact hG
          · have hG := hG.2 hc
            refine aw_aload_n (k' := 0) (by decide +kernel) rfl ?_
            refine gfX12_13 rfl (by decide +kernel) (OB.at (ci := 10) (show shp 171 = (20, 0) by decide +kernel) (by decide)) ?_
            refine AW.topR (show RC 171 1 = 172 by decide +kernel) ?_
            refine aw_iconst (n := 5) (by decide +kernel) ?_
            refine ax_iald (i := 5) (by decide +kernel) (isA_lit (show shp 172 = (0, 2184) by decide +kernel) (by decide)) (by decide +kernel) ⟨by decide, by decide⟩ ?_
            refine aw_goto (off := 8) (tgt := 51) (by decide +kernel) (by decide) ?_
            refine aw_istore_n (k' := 3) (by decide +kernel) (by decide) ?_
            show AW Γ l mX12_trial (d + 2) b 52 [vR 171, vI x1, vI x2, vI (g3 172 5)] [] (stt g3) K
            refine aw_aload_n (k' := 0) (by decide +kernel) rfl ?_
            refine aw_callV (y := yX12_bringsBack) (M2 := mX12_bringsBack) (as := []) (S := []) (t := 171) (d2 := (d + 1)) (b2 := 0) (b3 := b) cwX12_bringsBack mlX12_499 imX12_bringsBack seX12_bringsBack (by decide +kernel) rfl (ci := 10) rfl (OB.at (ci := 10) (show shp 171 = (20, 0) by decide +kernel) (by decide)) (Nat.le_refl _) (Nat.le_of_eq (Nat.zero_add _)) rfl rfl (by simp [oneSlot]) (Nat.le_of_ble_eq_true rfl) (Ct.mono hG ?_)
            rintro o h' (⟨g6, rfl, rfl, hG⟩ | ⟨E, g, rfl, rfl, hG⟩)
            · show AW Γ l mX12_trial (d + 2) b 56 [vR 171, vI x1, vI x2, vI (g3 172 5)] [] (stt g6) K
              refine aw_iload_n (k' := 3) (by decide +kernel) rfl ?_
              exact aw_iret (by decide +kernel) rfl hG
            · exact hG
        · exact hG
      · exact hG
    · exact hG

set_option maxHeartbeats 1000000 in
theorem wpX12_span {Γ : Cfg} {l : Launch} {d b : Nat} {g : GG} {K : Ou → HP → Prop} {x1 : Int} {x2 : Int} (hF : (¬ (0 ≤ wr x1 ∧ wr x1 ≤ 60) → K (.inl (vI 0)) (stt (upd2 (upd2 g 171 0 0) 171 0 1))) ∧ (¬ (¬ (0 ≤ wr x1 ∧ wr x1 ≤ 60)) → Ct Γ l (d + 1) 0 yX12_inOrder mX12_inOrder [vR 171] (stt (upd2 g 171 0 0)) (bV (fun g1 => Ct Γ l (d + 1) 0 yX12_keepsAll mX12_keepsAll [vR 171] (stt g1) (bV (fun g2 => AW Γ l mX12_span (d + 2) b 32 [vR 171, vI x1, vI x2, vI (-1), vI 1, vU] [] (stt g2) K) K)) K))) : Ct Γ l (d + 2) b yX12_span mX12_span [vR 171, vI x1, vI x2] (stt g) K := by
  refine Ct.enter (L := [vR 171, vI x1, vI x2, vU, vU, vU]) rfl rfl rfl (by decide +kernel) (by simp [oneSlot]) (Nat.le_of_ble_eq_true rfl) rfl ?_
  refine aw_aload_n (k' := 0) (by decide +kernel) rfl ?_
  refine aw_iconst (n := 0) (by decide +kernel) ?_
  refine pfX12_3 rfl (by decide +kernel) (OB.at (ci := 10) (show shp 171 = (20, 0) by decide +kernel) (by decide)) ?_
  show AW Γ l mX12_span (d + 2) b 5 [vR 171, vI x1, vI x2, vU, vU, vU] [] (stt (upd2 g 171 0 0)) K
  refine aw_aload_n (k' := 0) (by decide +kernel) rfl ?_
  refine aw_iload_n (k' := 1) (by decide +kernel) rfl ?_
  refine aw_callS (y := yX12_noHours) (M2 := mX12_noHours) (as := [vI x1]) (S := [vR 171]) (d2 := (d + 1)) (b2 := 0) (b3 := b) cwX12_noHours mlX12_493 stX12_noHours (by decide +kernel) rfl (Nat.le_refl _) (Nat.le_of_eq (Nat.zero_add _)) rfl rfl (by simp [oneSlot]) (Nat.le_of_ble_eq_true rfl) (c_noHours (fun hc => ?_) (fun hc => ?_))
  · have hF := hF.1 hc
    show AW Γ l mX12_span (d + 2) b 10 [vR 171, vI x1, vI x2, vU, vU, vU] [vI 1, vR 171] (stt (upd2 g 171 0 0)) K
    refine aw_iconst (n := 1) (by decide +kernel) ?_
    refine aw_callV (y := yX12_throwsIf) (M2 := mX12_throwsIf) (as := [vI 1, vI 1]) (S := []) (t := 171) (d2 := (d + 1)) (b2 := 0) (b3 := b) cwX12_throwsIf mlX12_279 imX12_throwsIf seX12_throwsIf (by decide +kernel) rfl (ci := 10) rfl (OB.at (ci := 10) (show shp 171 = (20, 0) by decide +kernel) (by decide)) (Nat.le_refl _) (Nat.le_of_eq (Nat.zero_add _)) rfl rfl (by simp [oneSlot]) (Nat.le_of_ble_eq_true rfl) (c_throwsIf1 ?_)
    show AW Γ l mX12_span (d + 2) b 14 [vR 171, vI x1, vI x2, vU, vU, vU] [vI 1] (stt (upd2 (upd2 g 171 0 0) 171 0 1)) K
    refine ax_if_eq (off := 5) (tgt := 19) (x' := 1) (by decide +kernel) (by decide) (by decide +kernel) (fun hc => absurd hc (by decide)) (fun hc => ?_)
    refine aw_iconst (n := 0) (by decide +kernel) ?_
    exact aw_iret (by decide +kernel) rfl hF
  · have hF := hF.2 hc
    show AW Γ l mX12_span (d + 2) b 10 [vR 171, vI x1, vI x2, vU, vU, vU] [vI 0, vR 171] (stt (upd2 g 171 0 0)) K
    refine aw_iconst (n := 1) (by decide +kernel) ?_
    refine aw_callV (y := yX12_throwsIf) (M2 := mX12_throwsIf) (as := [vI 0, vI 1]) (S := []) (t := 171) (d2 := (d + 1)) (b2 := 0) (b3 := b) cwX12_throwsIf mlX12_279 imX12_throwsIf seX12_throwsIf (by decide +kernel) rfl (ci := 10) rfl (OB.at (ci := 10) (show shp 171 = (20, 0) by decide +kernel) (by decide)) (Nat.le_refl _) (Nat.le_of_eq (Nat.zero_add _)) rfl rfl (by simp [oneSlot]) (Nat.le_of_ble_eq_true rfl) (c_throwsIf0 ?_)
    show AW Γ l mX12_span (d + 2) b 14 [vR 171, vI x1, vI x2, vU, vU, vU] [vI 0] (stt (upd2 g 171 0 0)) K
    refine ax_if_eq (off := 5) (tgt := 19) (x' := 0) (by decide +kernel) (by decide) (by decide +kernel) (fun hc => ?_) (fun hc => absurd (by decide) hc)
    refine aw_aload_n (k' := 0) (by decide +kernel) rfl ?_
    refine aw_callV (y := yX12_inOrder) (M2 := mX12_inOrder) (as := []) (S := []) (t := 171) (d2 := (d + 1)) (b2 := 0) (b3 := b) cwX12_inOrder mlX12_377 imX12_inOrder seX12_inOrder (by decide +kernel) rfl (ci := 10) rfl (OB.at (ci := 10) (show shp 171 = (20, 0) by decide +kernel) (by decide)) (Nat.le_refl _) (Nat.le_of_eq (Nat.zero_add _)) rfl rfl (by simp [oneSlot]) (Nat.le_of_ble_eq_true rfl) (Ct.mono hF ?_)
    rintro o h' (⟨g1, rfl, rfl, hG⟩ | ⟨E, g, rfl, rfl, hG⟩)
    · show AW Γ l mX12_span (d + 2) b 23 [vR 171, vI x1, vI x2, vU, vU, vU] [] (stt g1) K
      refine aw_aload_n (k' := 0) (by decide +kernel) rfl ?_
      refine aw_callV (y := yX12_keepsAll) (M2 := mX12_keepsAll) (as := []) (S := []) (t := 171) (d2 := (d + 1)) (b2 := 0) (b3 := b) cwX12_keepsAll mlX12_496 imX12_keepsAll seX12_keepsAll (by decide +kernel) rfl (ci := 10) rfl (OB.at (ci := 10) (show shp 171 = (20, 0) by decide +kernel) (by decide)) (Nat.le_refl _) (Nat.le_of_eq (Nat.zero_add _)) rfl rfl (by simp [oneSlot]) (Nat.le_of_ble_eq_true rfl) (Ct.mono hG ?_)
      rintro o h' (⟨g2, rfl, rfl, hG⟩ | ⟨E, g, rfl, rfl, hG⟩)
      · show AW Γ l mX12_span (d + 2) b 27 [vR 171, vI x1, vI x2, vU, vU, vU] [] (stt g2) K
        refine aw_iconst (n := -1) (by decide +kernel) ?_
        refine aw_istore_n (k' := 3) (by decide +kernel) (by decide) ?_
        show AW Γ l mX12_span (d + 2) b 29 [vR 171, vI x1, vI x2, vI (-1), vU, vU] [] (stt g2) K
        refine aw_iconst (n := 1) (by decide +kernel) ?_
        refine aw_istore (i := 4) (by decide +kernel) (by decide) ?_
        show AW Γ l mX12_span (d + 2) b 32 [vR 171, vI x1, vI x2, vI (-1), vI 1, vU] [] (stt g2) K
        exact hG
      · exact hG
    · exact hG
set_option maxHeartbeats 1000000 in
theorem wpX12_span_32 {Γ : Cfg} {l : Launch} {d b : Nat} {g : GG} {K : Ou → HP → Prop} {x1 : Int} {x2 : Int} {y3 : Int} {y4 : Int} (hF : (6 < wr y4 → K (.inl (vI y3)) (stt g)) ∧ (¬ (6 < wr y4) → Ct Γ l (d + 1) 0 yX12_goesOn mX12_goesOn [vR 171, vI x1] (stt (upd2 g 172 7 y4)) (bI (fun v1 g1 => Ct Γ l (d + 1) 0 yX12_bringsBack mX12_bringsBack [vR 171] (stt g1) (bV (fun g2 => (0 ≤ wr y3 → (wr x2 = 0 → AW Γ l mX12_span (d + 2) b 32 [vR 171, vI x1, vI x2, vI (iMin y3 (g1 172 5)), vI (y4 + 1), vI (g1 172 5)] [] (stt g2) K) ∧ (¬ (wr x2 = 0) → AW Γ l mX12_span (d + 2) b 32 [vR 171, vI x1, vI x2, vI (iMax y3 (g1 172 5)), vI (y4 + 1), vI (g1 172 5)] [] (stt g2) K)) ∧ (¬ (0 ≤ wr y3) → AW Γ l mX12_span (d + 2) b 32 [vR 171, vI x1, vI x2, vI (g1 172 5), vI (y4 + 1), vI (g1 172 5)] [] (stt g2) K)) K)) K))) : AW Γ l mX12_span (d + 2) b 32 [vR 171, vI x1, vI x2, vI y3, vI y4, vU] [] (stt g) K := by
  refine aw_iload (i := 4) (by decide +kernel) rfl ?_
  refine aw_bipush (n := 6) (by decide +kernel) (by decide +kernel) ?_
  refine ax_icmp_gt (off := 65) (tgt := 101) (x' := wr y4) (y' := 6) (by decide +kernel) (by decide) rfl (by decide +kernel) (fun hc => ?_) (fun hc => ?_)
  · have hF := hF.1 hc
    refine aw_iload_n (k' := 3) (by decide +kernel) rfl ?_
    exact aw_iret (by decide +kernel) rfl hF
  · have hF := hF.2 hc
    refine aw_aload_n (k' := 0) (by decide +kernel) rfl ?_
    refine gfX12_13 rfl (by decide +kernel) (OB.at (ci := 10) (show shp 171 = (20, 0) by decide +kernel) (by decide)) ?_
    refine AW.topR (show RC 171 1 = 172 by decide +kernel) ?_
    refine aw_bipush (n := 7) (by decide +kernel) (by decide +kernel) ?_
    refine aw_iload (i := 4) (by decide +kernel) rfl ?_
    refine ax_iast (i := 7) (by decide +kernel) (isA_lit (show shp 172 = (0, 2184) by decide +kernel) (by decide)) (by decide +kernel) ⟨by decide, by decide⟩ ?_
    show AW Γ l mX12_span (d + 2) b 48 [vR 171, vI x1, vI x2, vI y3, vI y4, vU] [] (stt (upd2 g 172 7 y4)) K
    refine aw_aload_n (k' := 0) (by decide +kernel) rfl ?_
    refine aw_iload_n (k' := 1) (by decide +kernel) rfl ?_
    refine aw_callV (y := yX12_goesOn) (M2 := mX12_goesOn) (as := [vI x1]) (S := []) (t := 171) (d2 := (d + 1)) (b2 := 0) (b3 := b) cwX12_goesOn mlX12_411 imX12_goesOn seX12_goesOn (by decide +kernel) rfl (ci := 10) rfl (OB.at (ci := 10) (show shp 171 = (20, 0) by decide +kernel) (by decide)) (Nat.le_refl _) (Nat.le_of_eq (Nat.zero_add _)) rfl rfl (by simp [oneSlot]) (Nat.le_of_ble_eq_true rfl) (Ct.mono hF ?_)
    rintro o h' (⟨v1, g1, rfl, rfl, hG⟩ | ⟨E, g, rfl, rfl, hG⟩)
    · show AW Γ l mX12_span (d + 2) b 53 [vR 171, vI x1, vI x2, vI y3, vI y4, vU] [vI v1] (stt g1) K
      refine aw_pop (by decide +kernel) trivial ?_
      refine aw_aload_n (k' := 0) (by decide +kernel) rfl ?_
      refine gfX12_13 rfl (by decide +kernel) (OB.at (ci := 10) (show shp 171 = (20, 0) by decide +kernel) (by decide)) ?_
      refine AW.topR (show RC 171 1 = 172 by decide +kernel) ?_
      refine aw_iconst (n := 5) (by decide +kernel) ?_
      refine ax_iald (i := 5) (by decide +kernel) (isA_lit (show shp 172 = (0, 2184) by decide +kernel) (by decide)) (by decide +kernel) ⟨by decide, by decide⟩ ?_
      refine aw_istore (i := 5) (by decide +kernel) (by decide) ?_
      show AW Γ l mX12_span (d + 2) b 62 [vR 171, vI x1, vI x2, vI y3, vI y4, vI (g1 172 5)] [] (stt g1) K
      refine aw_aload_n (k' := 0) (by decide +kernel) rfl ?_
      refine aw_callV (y := yX12_bringsBack) (M2 := mX12_bringsBack) (as := []) (S := []) (t := 171) (d2 := (d + 1)) (b2 := 0) (b3 := b) cwX12_bringsBack mlX12_499 imX12_bringsBack seX12_bringsBack (by decide +kernel) rfl (ci := 10) rfl (OB.at (ci := 10) (show shp 171 = (20, 0) by decide +kernel) (by decide)) (Nat.le_refl _) (Nat.le_of_eq (Nat.zero_add _)) rfl rfl (by simp [oneSlot]) (Nat.le_of_ble_eq_true rfl) (Ct.mono hG ?_)
      rintro o h' (⟨g2, rfl, rfl, hG⟩ | ⟨E, g, rfl, rfl, hG⟩)
      · show AW Γ l mX12_span (d + 2) b 66 [vR 171, vI x1, vI x2, vI y3, vI y4, vI (g1 172 5)] [] (stt g2) K
        refine aw_iload_n (k' := 3) (by decide +kernel) rfl ?_
        refine ax_if_ge (off := 8) (tgt := 75) (x' := wr y3) (by decide +kernel) (by decide) rfl (fun hc => ?_) (fun hc => ?_)
        · have hG := hG.1 hc
          refine aw_iload_n (k' := 2) (by decide +kernel) rfl ?_
          refine ax_if_eq (off := 12) (tgt := 88) (x' := wr x2) (by decide +kernel) (by decide) rfl (fun hc => ?_) (fun hc => ?_)
          · have hG := hG.1 hc
            refine aw_iload_n (k' := 3) (by decide +kernel) rfl ?_
            refine aw_iload (i := 5) (by decide +kernel) rfl ?_
            refine aw_mmin (by decide +kernel) mlX12_285 stJ9_min_7cf53 cwM_init cwM_min (by simp [oneSlot]) (Nat.le_of_ble_eq_true rfl) ?_
            refine aw_istore_n (k' := 3) (by decide +kernel) (by decide) ?_
            show AW Γ l mX12_span (d + 2) b 95 [vR 171, vI x1, vI x2, vI (iMin y3 (g1 172 5)), vI y4, vI (g1 172 5)] [] (stt g2) K
            refine aw_iinc (i := 4) (n := 1) (by decide +kernel) rfl (by decide) ?_
            show AW Γ l mX12_span (d + 2) b 98 [vR 171, vI x1, vI x2, vI (iMin y3 (g1 172 5)), vI (y4 + 1), vI (g1 172 5)] [] (stt g2) K
            refine aw_goto (off := -66) (tgt := 32) (by decide +kernel) (by decide) ?_
            exact hG
          · have hG := hG.2 hc
            refine aw_iload_n (k' := 3) (by decide +kernel) rfl ?_
            refine aw_iload (i := 5) (by decide +kernel) rfl ?_
            refine aw_mmax (by decide +kernel) mlX12_327 stJ9_max_7cf53 cwM_init cwM_max (by simp [oneSlot]) (Nat.le_of_ble_eq_true rfl) ?_
            refine aw_goto (off := 9) (tgt := 94) (by decide +kernel) (by decide) ?_
            refine aw_istore_n (k' := 3) (by decide +kernel) (by decide) ?_
            show AW Γ l mX12_span (d + 2) b 95 [vR 171, vI x1, vI x2, vI (iMax y3 (g1 172 5)), vI y4, vI (g1 172 5)] [] (stt g2) K
            refine aw_iinc (i := 4) (n := 1) (by decide +kernel) rfl (by decide) ?_
            show AW Γ l mX12_span (d + 2) b 98 [vR 171, vI x1, vI x2, vI (iMax y3 (g1 172 5)), vI (y4 + 1), vI (g1 172 5)] [] (stt g2) K
            refine aw_goto (off := -66) (tgt := 32) (by decide +kernel) (by decide) ?_
            exact hG
        · have hG := hG.2 hc
          refine aw_iload (i := 5) (by decide +kernel) rfl ?_
          refine aw_goto (off := 22) (tgt := 94) (by decide +kernel) (by decide) ?_
          refine aw_istore_n (k' := 3) (by decide +kernel) (by decide) ?_
          show AW Γ l mX12_span (d + 2) b 95 [vR 171, vI x1, vI x2, vI (g1 172 5), vI y4, vI (g1 172 5)] [] (stt g2) K
          refine aw_iinc (i := 4) (n := 1) (by decide +kernel) rfl (by decide) ?_
          show AW Γ l mX12_span (d + 2) b 98 [vR 171, vI x1, vI x2, vI (g1 172 5), vI (y4 + 1), vI (g1 172 5)] [] (stt g2) K
          refine aw_goto (off := -66) (tgt := 32) (by decide +kernel) (by decide) ?_
          exact hG
      · exact hG
    · exact hG

set_option maxHeartbeats 1000000 in
theorem wpX12_ofLog {Γ : Cfg} {l : Launch} {d b : Nat} {g : GG} {K : Ou → HP → Prop} {x1 : Int} {x2 : Int} (hF : (0 ≤ wr ((186 + (5 * x1)) + x2) ∧ wr ((186 + (5 * x1)) + x2) < 2184) ∧ (K (.inl (vI (g 172 (wr ((186 + (5 * x1)) + x2))))) (stt g))) : Ct Γ l d b yX12_ofLog mX12_ofLog [vR 171, vI x1, vI x2] (stt g) K := by
  refine Ct.enter (L := [vR 171, vI x1, vI x2]) rfl rfl rfl (by decide +kernel) (by simp [oneSlot]) (Nat.le_of_ble_eq_true rfl) rfl ?_
  refine aw_aload_n (k' := 0) (by decide +kernel) rfl ?_
  refine gfX12_13 rfl (by decide +kernel) (OB.at (ci := 10) (show shp 171 = (20, 0) by decide +kernel) (by decide)) ?_
  refine AW.topR (show RC 171 1 = 172 by decide +kernel) ?_
  refine aw_sipush (n := 186) (by decide +kernel) (by decide +kernel) ?_
  refine aw_iconst (n := 5) (by decide +kernel) ?_
  refine aw_iload_n (k' := 1) (by decide +kernel) rfl ?_
  refine aw_imul (by decide +kernel) ?_
  refine aw_iadd (by decide +kernel) ?_
  refine aw_iload_n (k' := 2) (by decide +kernel) rfl ?_
  refine aw_iadd (by decide +kernel) ?_
  refine ax_iald (i := wr ((186 + (5 * x1)) + x2)) (by decide +kernel) (isA_lit (show shp 172 = (0, 2184) by decide +kernel) (by decide)) rfl hF.1 ?_
  replace hF := hF.2
  exact aw_iret (by decide +kernel) rfl hF

set_option maxHeartbeats 1000000 in
theorem wpX12_led {Γ : Cfg} {l : Launch} {d b : Nat} {g : GG} {K : Ou → HP → Prop} {x1 : Int} {x2 : Int} (hF : (¬ (0 ≤ wr x1 ∧ wr x1 ≤ wr ((upd2 g 171 0 0) 172 0 - 1)) → K (.inl (vI 0)) (stt (upd2 (upd2 g 171 0 0) 171 0 1))) ∧ (¬ (¬ (0 ≤ wr x1 ∧ wr x1 ≤ wr ((upd2 g 171 0 0) 172 0 - 1))) → AW Γ l mX12_led (d + 2) b 36 [vR 171, vI x1, vI x2, vI 0, vI (-1), vI (((upd2 g 171 0 0) 172 6) - 1)] [] (stt (upd2 g 171 0 0)) K)) : Ct Γ l (d + 2) b yX12_led mX12_led [vR 171, vI x1, vI x2] (stt g) K := by
  refine Ct.enter (L := [vR 171, vI x1, vI x2, vU, vU, vU]) rfl rfl rfl (by decide +kernel) (by simp [oneSlot]) (Nat.le_of_ble_eq_true rfl) rfl ?_
  refine aw_aload_n (k' := 0) (by decide +kernel) rfl ?_
  refine aw_iconst (n := 0) (by decide +kernel) ?_
  refine pfX12_3 rfl (by decide +kernel) (OB.at (ci := 10) (show shp 171 = (20, 0) by decide +kernel) (by decide)) ?_
  show AW Γ l mX12_led (d + 2) b 5 [vR 171, vI x1, vI x2, vU, vU, vU] [] (stt (upd2 g 171 0 0)) K
  refine aw_aload_n (k' := 0) (by decide +kernel) rfl ?_
  refine aw_aload_n (k' := 0) (by decide +kernel) rfl ?_
  refine aw_iload_n (k' := 1) (by decide +kernel) rfl ?_
  refine aw_callV (y := yX12_noPerson) (M2 := mX12_noPerson) (as := [vI x1]) (S := [vR 171]) (t := 171) (d2 := (d + 1)) (b2 := 0) (b3 := b) cwX12_noPerson mlX12_386 imX12_noPerson seX12_noPerson (by decide +kernel) rfl (ci := 10) rfl (OB.at (ci := 10) (show shp 171 = (20, 0) by decide +kernel) (by decide)) (Nat.le_refl _) (Nat.le_of_eq (Nat.zero_add _)) rfl rfl (by simp [oneSlot]) (Nat.le_of_ble_eq_true rfl) (c_noPerson (fun hc => ?_) (fun hc => ?_))
  · have hF := hF.1 hc
    show AW Γ l mX12_led (d + 2) b 11 [vR 171, vI x1, vI x2, vU, vU, vU] [vI 1, vR 171] (stt (upd2 g 171 0 0)) K
    refine aw_iconst (n := 1) (by decide +kernel) ?_
    refine aw_callV (y := yX12_throwsIf) (M2 := mX12_throwsIf) (as := [vI 1, vI 1]) (S := []) (t := 171) (d2 := (d + 1)) (b2 := 0) (b3 := b) cwX12_throwsIf mlX12_279 imX12_throwsIf seX12_throwsIf (by decide +kernel) rfl (ci := 10) rfl (OB.at (ci := 10) (show shp 171 = (20, 0) by decide +kernel) (by decide)) (Nat.le_refl _) (Nat.le_of_eq (Nat.zero_add _)) rfl rfl (by simp [oneSlot]) (Nat.le_of_ble_eq_true rfl) (c_throwsIf1 ?_)
    show AW Γ l mX12_led (d + 2) b 15 [vR 171, vI x1, vI x2, vU, vU, vU] [vI 1] (stt (upd2 (upd2 g 171 0 0) 171 0 1)) K
    refine ax_if_eq (off := 5) (tgt := 20) (x' := 1) (by decide +kernel) (by decide) (by decide +kernel) (fun hc => absurd hc (by decide)) (fun hc => ?_)
    refine aw_iconst (n := 0) (by decide +kernel) ?_
    exact aw_iret (by decide +kernel) rfl hF
  · have hF := hF.2 hc
    show AW Γ l mX12_led (d + 2) b 11 [vR 171, vI x1, vI x2, vU, vU, vU] [vI 0, vR 171] (stt (upd2 g 171 0 0)) K
    refine aw_iconst (n := 1) (by decide +kernel) ?_
    refine aw_callV (y := yX12_throwsIf) (M2 := mX12_throwsIf) (as := [vI 0, vI 1]) (S := []) (t := 171) (d2 := (d + 1)) (b2 := 0) (b3 := b) cwX12_throwsIf mlX12_279 imX12_throwsIf seX12_throwsIf (by decide +kernel) rfl (ci := 10) rfl (OB.at (ci := 10) (show shp 171 = (20, 0) by decide +kernel) (by decide)) (Nat.le_refl _) (Nat.le_of_eq (Nat.zero_add _)) rfl rfl (by simp [oneSlot]) (Nat.le_of_ble_eq_true rfl) (c_throwsIf0 ?_)
    show AW Γ l mX12_led (d + 2) b 15 [vR 171, vI x1, vI x2, vU, vU, vU] [vI 0] (stt (upd2 g 171 0 0)) K
    refine ax_if_eq (off := 5) (tgt := 20) (x' := 0) (by decide +kernel) (by decide) (by decide +kernel) (fun hc => ?_) (fun hc => absurd (by decide) hc)
    refine aw_iconst (n := 0) (by decide +kernel) ?_
    refine aw_istore_n (k' := 3) (by decide +kernel) (by decide) ?_
    show AW Γ l mX12_led (d + 2) b 22 [vR 171, vI x1, vI x2, vI 0, vU, vU] [] (stt (upd2 g 171 0 0)) K
    refine aw_iconst (n := -1) (by decide +kernel) ?_
    refine aw_istore (i := 4) (by decide +kernel) (by decide) ?_
    show AW Γ l mX12_led (d + 2) b 25 [vR 171, vI x1, vI x2, vI 0, vI (-1), vU] [] (stt (upd2 g 171 0 0)) K
    refine aw_aload_n (k' := 0) (by decide +kernel) rfl ?_
    refine gfX12_13 rfl (by decide +kernel) (OB.at (ci := 10) (show shp 171 = (20, 0) by decide +kernel) (by decide)) ?_
    refine AW.topR (show RC 171 1 = 172 by decide +kernel) ?_
    refine aw_bipush (n := 6) (by decide +kernel) (by decide +kernel) ?_
    refine ax_iald (i := 6) (by decide +kernel) (isA_lit (show shp 172 = (0, 2184) by decide +kernel) (by decide)) (by decide +kernel) ⟨by decide, by decide⟩ ?_
    refine aw_iconst (n := 1) (by decide +kernel) ?_
    refine aw_isub (by decide +kernel) ?_
    refine aw_istore (i := 5) (by decide +kernel) (by decide) ?_
    show AW Γ l mX12_led (d + 2) b 36 [vR 171, vI x1, vI x2, vI 0, vI (-1), vI (((upd2 g 171 0 0) 172 6) - 1)] [] (stt (upd2 g 171 0 0)) K
    exact hF
set_option maxHeartbeats 1000000 in
theorem wpX12_led_36 {Γ : Cfg} {l : Launch} {d b : Nat} {g : GG} {K : Ou → HP → Prop} {x1 : Int} {x2 : Int} {y3 : Int} {y4 : Int} {y5 : Int} (hF : (wr y5 < 0 → (wr x2 = 0 → K (.inl (vI y3)) (stt g)) ∧ (¬ (wr x2 = 0) → K (.inl (vI y4)) (stt g))) ∧ (¬ (wr y5 < 0) → Ct Γ l (d + 1) 0 yX12_ofLog mX12_ofLog [vR 171, vI y5, vI 1] (stt g) (bI (fun v1 g1 => (wr v1 = wr x1 → Ct Γ l (d + 1) 0 yX12_ofLog mX12_ofLog [vR 171, vI y5, vI 0] (stt g1) (bI (fun v2 g2 => AW Γ l mX12_led (d + 2) b 36 [vR 171, vI x1, vI x2, vI (y3 + 1), vI v2, vI (y5 + (-1))] [] (stt g2) K) K)) ∧ (¬ (wr v1 = wr x1) → AW Γ l mX12_led (d + 2) b 36 [vR 171, vI x1, vI x2, vI y3, vI y4, vI (y5 + (-1))] [] (stt g1) K)) K))) : AW Γ l mX12_led (d + 2) b 36 [vR 171, vI x1, vI x2, vI y3, vI y4, vI y5] [] (stt g) K := by
  refine aw_iload (i := 5) (by decide +kernel) rfl ?_
  refine ax_if_lt (off := 35) (tgt := 73) (x' := wr y5) (by decide +kernel) (by decide) rfl (fun hc => ?_) (fun hc => ?_)
  · have hF := hF.1 hc
    refine aw_iload_n (k' := 2) (by decide +kernel) rfl ?_
    refine ax_if_eq (off := 8) (tgt := 82) (x' := wr x2) (by decide +kernel) (by decide) rfl (fun hc => ?_) (fun hc => ?_)
    · have hF := hF.1 hc
      refine aw_iload_n (k' := 3) (by decide +kernel) rfl ?_
      exact aw_iret (by decide +kernel) rfl hF
    · have hF := hF.2 hc
      refine aw_iload (i := 4) (by decide +kernel) rfl ?_
      refine aw_goto (off := 4) (tgt := 83) (by decide +kernel) (by decide) ?_
      exact aw_iret (by decide +kernel) rfl hF
  · have hF := hF.2 hc
    refine aw_aload_n (k' := 0) (by decide +kernel) rfl ?_
    refine aw_iload (i := 5) (by decide +kernel) rfl ?_
    refine aw_iconst (n := 1) (by decide +kernel) ?_
    refine aw_callV (y := yX12_ofLog) (M2 := mX12_ofLog) (as := [vI y5, vI 1]) (S := []) (t := 171) (d2 := (d + 1)) (b2 := 0) (b3 := b) cwX12_ofLog mlX12_502 imX12_ofLog seX12_ofLog (by decide +kernel) rfl (ci := 10) rfl (OB.at (ci := 10) (show shp 171 = (20, 0) by decide +kernel) (by decide)) (Nat.le_refl _) (Nat.le_of_eq (Nat.zero_add _)) rfl rfl (by simp [oneSlot]) (Nat.le_of_ble_eq_true rfl) (Ct.mono hF ?_)
    rintro o h' (⟨v1, g1, rfl, rfl, hG⟩ | ⟨E, g, rfl, rfl, hG⟩)
    · show AW Γ l mX12_led (d + 2) b 48 [vR 171, vI x1, vI x2, vI y3, vI y4, vI y5] [vI v1] (stt g1) K
      refine aw_iload_n (k' := 1) (by decide +kernel) rfl ?_
      refine ax_icmp_eq (off := 6) (tgt := 55) (x' := wr v1) (y' := wr x1) (by decide +kernel) (by decide) rfl rfl (fun hc => ?_) (fun hc => ?_)
      · have hG := hG.1 hc
        refine aw_iinc (i := 3) (n := 1) (by decide +kernel) rfl (by decide) ?_
        show AW Γ l mX12_led (d + 2) b 58 [vR 171, vI x1, vI x2, vI (y3 + 1), vI y4, vI y5] [] (stt g1) K
        refine aw_aload_n (k' := 0) (by decide +kernel) rfl ?_
        refine aw_iload (i := 5) (by decide +kernel) rfl ?_
        refine aw_iconst (n := 0) (by decide +kernel) ?_
        refine aw_callV (y := yX12_ofLog) (M2 := mX12_ofLog) (as := [vI y5, vI 0]) (S := []) (t := 171) (d2 := (d + 1)) (b2 := 0) (b3 := b) cwX12_ofLog mlX12_502 imX12_ofLog seX12_ofLog (by decide +kernel) rfl (ci := 10) rfl (OB.at (ci := 10) (show shp 171 = (20, 0) by decide +kernel) (by decide)) (Nat.le_refl _) (Nat.le_of_eq (Nat.zero_add _)) rfl rfl (by simp [oneSlot]) (Nat.le_of_ble_eq_true rfl) (Ct.mono hG ?_)
        rintro o h' (⟨v2, g2, rfl, rfl, hG⟩ | ⟨E, g, rfl, rfl, hG⟩)
        · show AW Γ l mX12_led (d + 2) b 65 [vR 171, vI x1, vI x2, vI (y3 + 1), vI y4, vI y5] [vI v2] (stt g2) K
          refine aw_istore (i := 4) (by decide +kernel) (by decide) ?_
          show AW Γ l mX12_led (d + 2) b 67 [vR 171, vI x1, vI x2, vI (y3 + 1), vI v2, vI y5] [] (stt g2) K
          refine aw_iinc (i := 5) (n := -1) (by decide +kernel) rfl (by decide) ?_
          show AW Γ l mX12_led (d + 2) b 70 [vR 171, vI x1, vI x2, vI (y3 + 1), vI v2, vI (y5 + (-1))] [] (stt g2) K
          refine aw_goto (off := -34) (tgt := 36) (by decide +kernel) (by decide) ?_
          exact hG
        · exact hG
      · have hG := hG.2 hc
        refine aw_goto (off := 15) (tgt := 67) (by decide +kernel) (by decide) ?_
        refine aw_iinc (i := 5) (n := -1) (by decide +kernel) rfl (by decide) ?_
        show AW Γ l mX12_led (d + 2) b 70 [vR 171, vI x1, vI x2, vI y3, vI y4, vI (y5 + (-1))] [] (stt g1) K
        refine aw_goto (off := -34) (tgt := 36) (by decide +kernel) (by decide) ?_
        exact hG
    · exact hG

set_option maxHeartbeats 1000000 in
theorem wpX12_log {Γ : Cfg} {l : Launch} {d b : Nat} {g : GG} {K : Ou → HP → Prop} {x1 : Int} {x2 : Int} (hF : (0 ≤ wr x2 ∧ wr x2 ≤ 4 → (0 ≤ wr x1 ∧ wr x1 ≤ wr (((upd2 g 171 0 0) 172 6) - 1) → Ct Γ l d 0 yX12_ofLog mX12_ofLog [vR 171, vI x1, vI x2] (stt (upd2 g 171 0 0)) (bI (fun v1 g1 => K (.inl (vI v1)) (stt g1)) K)) ∧ (¬ (0 ≤ wr x1 ∧ wr x1 ≤ wr (((upd2 g 171 0 0) 172 6) - 1)) → K (.inl (vI (-1))) (stt (upd2 g 171 0 0)))) ∧ (¬ (0 ≤ wr x2 ∧ wr x2 ≤ 4) → K (.inl (vI 0)) (stt (upd2 (upd2 g 171 0 0) 171 0 1)))) : Ct Γ l (d + 1) b yX12_log mX12_log [vR 171, vI x1, vI x2] (stt g) K := by
  refine Ct.enter (L := [vR 171, vI x1, vI x2]) rfl rfl rfl (by decide +kernel) (by simp [oneSlot]) (Nat.le_of_ble_eq_true rfl) rfl ?_
  refine aw_aload_n (k' := 0) (by decide +kernel) rfl ?_
  refine aw_iconst (n := 0) (by decide +kernel) ?_
  refine pfX12_3 rfl (by decide +kernel) (OB.at (ci := 10) (show shp 171 = (20, 0) by decide +kernel) (by decide)) ?_
  show AW Γ l mX12_log (d + 1) b 5 [vR 171, vI x1, vI x2] [] (stt (upd2 g 171 0 0)) K
  refine aw_aload_n (k' := 0) (by decide +kernel) rfl ?_
  refine aw_iload_n (k' := 2) (by decide +kernel) rfl ?_
  refine aw_iconst (n := 0) (by decide +kernel) ?_
  refine aw_iconst (n := 4) (by decide +kernel) ?_
  refine aw_callS (y := yX12_in) (M2 := mX12_in) (as := [vI x2, vI 0, vI 4]) (S := [vR 171]) (d2 := d) (b2 := 0) (b3 := b) cwX12_in mlX12_91 stX12_in (by decide +kernel) rfl (Nat.le_refl _) (Nat.le_of_eq (Nat.zero_add _)) rfl rfl (by simp [oneSlot]) (Nat.le_of_ble_eq_true rfl) (c_in (x' := wr x2) (y' := 0) (z' := 4) rfl (by decide +kernel) (by decide +kernel) (fun hc => ?_) (fun hc => ?_))
  · have hF := hF.1 hc
    show AW Γ l mX12_log (d + 1) b 12 [vR 171, vI x1, vI x2] [vI 1, vR 171] (stt (upd2 g 171 0 0)) K
    refine ax_if_ne (off := 7) (tgt := 19) (x' := 1) (by decide +kernel) (by decide) (by decide +kernel) (fun hc => ?_) (fun hc => absurd (by decide) hc)
    refine aw_iconst (n := 0) (by decide +kernel) ?_
    refine aw_iconst (n := 1) (by decide +kernel) ?_
    refine aw_callV (y := yX12_throwsIf) (M2 := mX12_throwsIf) (as := [vI 0, vI 1]) (S := []) (t := 171) (d2 := d) (b2 := 0) (b3 := b) cwX12_throwsIf mlX12_279 imX12_throwsIf seX12_throwsIf (by decide +kernel) rfl (ci := 10) rfl (OB.at (ci := 10) (show shp 171 = (20, 0) by decide +kernel) (by decide)) (Nat.le_refl _) (Nat.le_of_eq (Nat.zero_add _)) rfl rfl (by simp [oneSlot]) (Nat.le_of_ble_eq_true rfl) (c_throwsIf0 ?_)
    show AW Γ l mX12_log (d + 1) b 24 [vR 171, vI x1, vI x2] [vI 0] (stt (upd2 g 171 0 0)) K
    refine ax_if_eq (off := 5) (tgt := 29) (x' := 0) (by decide +kernel) (by decide) (by decide +kernel) (fun hc => ?_) (fun hc => absurd (by decide) hc)
    refine aw_iload_n (k' := 1) (by decide +kernel) rfl ?_
    refine aw_iconst (n := 0) (by decide +kernel) ?_
    refine aw_aload_n (k' := 0) (by decide +kernel) rfl ?_
    refine gfX12_13 rfl (by decide +kernel) (OB.at (ci := 10) (show shp 171 = (20, 0) by decide +kernel) (by decide)) ?_
    refine AW.topR (show RC 171 1 = 172 by decide +kernel) ?_
    refine aw_bipush (n := 6) (by decide +kernel) (by decide +kernel) ?_
    refine ax_iald (i := 6) (by decide +kernel) (isA_lit (show shp 172 = (0, 2184) by decide +kernel) (by decide)) (by decide +kernel) ⟨by decide, by decide⟩ ?_
    refine aw_iconst (n := 1) (by decide +kernel) ?_
    refine aw_isub (by decide +kernel) ?_
    refine aw_callS (y := yX12_in) (M2 := mX12_in) (as := [vI x1, vI 0, vI (((upd2 g 171 0 0) 172 6) - 1)]) (S := []) (d2 := d) (b2 := 0) (b3 := b) cwX12_in mlX12_91 stX12_in (by decide +kernel) rfl (Nat.le_refl _) (Nat.le_of_eq (Nat.zero_add _)) rfl rfl (by simp [oneSlot]) (Nat.le_of_ble_eq_true rfl) (c_in (x' := wr x1) (y' := 0) (z' := wr (((upd2 g 171 0 0) 172 6) - 1)) rfl (by decide +kernel) rfl (fun hc => ?_) (fun hc => ?_))
    · have hF := hF.1 hc
      show AW Γ l mX12_log (d + 1) b 43 [vR 171, vI x1, vI x2] [vI 1] (stt (upd2 g 171 0 0)) K
      refine ax_if_eq (off := 12) (tgt := 55) (x' := 1) (by decide +kernel) (by decide) (by decide +kernel) (fun hc => absurd hc (by decide)) (fun hc => ?_)
      refine aw_aload_n (k' := 0) (by decide +kernel) rfl ?_
      refine aw_iload_n (k' := 1) (by decide +kernel) rfl ?_
      refine aw_iload_n (k' := 2) (by decide +kernel) rfl ?_
      refine aw_callV (y := yX12_ofLog) (M2 := mX12_ofLog) (as := [vI x1, vI x2]) (S := []) (t := 171) (d2 := d) (b2 := 0) (b3 := b) cwX12_ofLog mlX12_502 imX12_ofLog seX12_ofLog (by decide +kernel) rfl (ci := 10) rfl (OB.at (ci := 10) (show shp 171 = (20, 0) by decide +kernel) (by decide)) (Nat.le_refl _) (Nat.le_of_eq (Nat.zero_add _)) rfl rfl (by simp [oneSlot]) (Nat.le_of_ble_eq_true rfl) (Ct.mono hF ?_)
      rintro o h' (⟨v1, g1, rfl, rfl, hG⟩ | ⟨E, g, rfl, rfl, hG⟩)
      · show AW Γ l mX12_log (d + 1) b 52 [vR 171, vI x1, vI x2] [vI v1] (stt g1) K
        refine aw_goto (off := 4) (tgt := 56) (by decide +kernel) (by decide) ?_
        exact aw_iret (by decide +kernel) rfl hG
      · exact hG
    · have hF := hF.2 hc
      show AW Γ l mX12_log (d + 1) b 43 [vR 171, vI x1, vI x2] [vI 0] (stt (upd2 g 171 0 0)) K
      refine ax_if_eq (off := 12) (tgt := 55) (x' := 0) (by decide +kernel) (by decide) (by decide +kernel) (fun hc => ?_) (fun hc => absurd (by decide) hc)
      refine aw_iconst (n := -1) (by decide +kernel) ?_
      exact aw_iret (by decide +kernel) rfl hF
  · have hF := hF.2 hc
    show AW Γ l mX12_log (d + 1) b 12 [vR 171, vI x1, vI x2] [vI 0, vR 171] (stt (upd2 g 171 0 0)) K
    refine ax_if_ne (off := 7) (tgt := 19) (x' := 0) (by decide +kernel) (by decide) (by decide +kernel) (fun hc => absurd hc (by decide)) (fun hc => ?_)
    refine aw_iconst (n := 1) (by decide +kernel) ?_
    refine aw_goto (off := 4) (tgt := 20) (by decide +kernel) (by decide) ?_
    refine aw_iconst (n := 1) (by decide +kernel) ?_
    refine aw_callV (y := yX12_throwsIf) (M2 := mX12_throwsIf) (as := [vI 1, vI 1]) (S := []) (t := 171) (d2 := d) (b2 := 0) (b3 := b) cwX12_throwsIf mlX12_279 imX12_throwsIf seX12_throwsIf (by decide +kernel) rfl (ci := 10) rfl (OB.at (ci := 10) (show shp 171 = (20, 0) by decide +kernel) (by decide)) (Nat.le_refl _) (Nat.le_of_eq (Nat.zero_add _)) rfl rfl (by simp [oneSlot]) (Nat.le_of_ble_eq_true rfl) (c_throwsIf1 ?_)
    show AW Γ l mX12_log (d + 1) b 24 [vR 171, vI x1, vI x2] [vI 1] (stt (upd2 (upd2 g 171 0 0) 171 0 1)) K
    refine ax_if_eq (off := 5) (tgt := 29) (x' := 1) (by decide +kernel) (by decide) (by decide +kernel) (fun hc => absurd hc (by decide)) (fun hc => ?_)
    refine aw_iconst (n := 0) (by decide +kernel) ?_
    exact aw_iret (by decide +kernel) rfl hF

set_option maxHeartbeats 1000000 in
theorem wpX12_seed {Γ : Cfg} {l : Launch} {d b : Nat} {g : GG} {K : Ou → HP → Prop} {x1 : Int} (hF : K (.inl (vI ((upd2 g 171 0 0) 172 7))) (stt (upd2 (upd2 g 171 0 0) 172 7 x1))) : Ct Γ l d b yX12_seed mX12_seed [vR 171, vI x1] (stt g) K := by
  refine Ct.enter (L := [vR 171, vI x1, vU]) rfl rfl rfl (by decide +kernel) (by simp [oneSlot]) (Nat.le_of_ble_eq_true rfl) rfl ?_
  refine aw_aload_n (k' := 0) (by decide +kernel) rfl ?_
  refine aw_iconst (n := 0) (by decide +kernel) ?_
  refine pfX12_3 rfl (by decide +kernel) (OB.at (ci := 10) (show shp 171 = (20, 0) by decide +kernel) (by decide)) ?_
  show AW Γ l mX12_seed d b 5 [vR 171, vI x1, vU] [] (stt (upd2 g 171 0 0)) K
  refine aw_aload_n (k' := 0) (by decide +kernel) rfl ?_
  refine gfX12_13 rfl (by decide +kernel) (OB.at (ci := 10) (show shp 171 = (20, 0) by decide +kernel) (by decide)) ?_
  refine AW.topR (show RC 171 1 = 172 by decide +kernel) ?_
  refine aw_bipush (n := 7) (by decide +kernel) (by decide +kernel) ?_
  refine ax_iald (i := 7) (by decide +kernel) (isA_lit (show shp 172 = (0, 2184) by decide +kernel) (by decide)) (by decide +kernel) ⟨by decide, by decide⟩ ?_
  refine aw_istore_n (k' := 2) (by decide +kernel) (by decide) ?_
  show AW Γ l mX12_seed d b 13 [vR 171, vI x1, vI ((upd2 g 171 0 0) 172 7)] [] (stt (upd2 g 171 0 0)) K
  refine aw_aload_n (k' := 0) (by decide +kernel) rfl ?_
  refine gfX12_13 rfl (by decide +kernel) (OB.at (ci := 10) (show shp 171 = (20, 0) by decide +kernel) (by decide)) ?_
  refine AW.topR (show RC 171 1 = 172 by decide +kernel) ?_
  refine aw_bipush (n := 7) (by decide +kernel) (by decide +kernel) ?_
  refine aw_iload_n (k' := 1) (by decide +kernel) rfl ?_
  refine ax_iast (i := 7) (by decide +kernel) (isA_lit (show shp 172 = (0, 2184) by decide +kernel) (by decide)) (by decide +kernel) ⟨by decide, by decide⟩ ?_
  show AW Γ l mX12_seed d b 21 [vR 171, vI x1, vI ((upd2 g 171 0 0) 172 7)] [] (stt (upd2 (upd2 g 171 0 0) 172 7 x1)) K
  refine aw_iload_n (k' := 2) (by decide +kernel) rfl ?_
  exact aw_iret (by decide +kernel) rfl hF

set_option maxHeartbeats 1000000 in
theorem wpX12_sumOfAll {Γ : Cfg} {l : Launch} {d b : Nat} {g : GG} {K : Ou → HP → Prop} {x1 : Int} (hF : AW Γ l mX12_sumOfAll (d + 2) b 4 [vR 171, vI x1, vI 0, vI 0] [] (stt g) K) : Ct Γ l (d + 2) b yX12_sumOfAll mX12_sumOfAll [vR 171, vI x1] (stt g) K := by
  refine Ct.enter (L := [vR 171, vI x1, vU, vU]) rfl rfl rfl (by decide +kernel) (by simp [oneSlot]) (Nat.le_of_ble_eq_true rfl) rfl ?_
  refine aw_iconst (n := 0) (by decide +kernel) ?_
  refine aw_istore_n (k' := 2) (by decide +kernel) (by decide) ?_
  show AW Γ l mX12_sumOfAll (d + 2) b 2 [vR 171, vI x1, vI 0, vU] [] (stt g) K
  refine aw_iconst (n := 0) (by decide +kernel) ?_
  refine aw_istore_n (k' := 3) (by decide +kernel) (by decide) ?_
  show AW Γ l mX12_sumOfAll (d + 2) b 4 [vR 171, vI x1, vI 0, vI 0] [] (stt g) K
  exact hF
set_option maxHeartbeats 1000000 in
theorem wpX12_sumOfAll_4 {Γ : Cfg} {l : Launch} {d b : Nat} {g : GG} {K : Ou → HP → Prop} {x1 : Int} {y2 : Int} {y3 : Int} (hF : (wr (g 172 0) ≤ wr y3 → K (.inl (vI y2)) (stt g)) ∧ (¬ (wr (g 172 0) ≤ wr y3) → (okP y3 x1) ∧ (AW Γ l mX12_sumOfAll (d + 2) b 4 [vR 171, vI x1, vI (y2 + (ofP g y3 x1)), vI (y3 + 1)] [] (stt g) K))) : AW Γ l mX12_sumOfAll (d + 2) b 4 [vR 171, vI x1, vI y2, vI y3] [] (stt g) K := by
  refine aw_iload_n (k' := 3) (by decide +kernel) rfl ?_
  refine aw_aload_n (k' := 0) (by decide +kernel) rfl ?_
  refine aw_callV (y := yX12_people) (M2 := mX12_people) (as := []) (S := [vI y3]) (t := 171) (d2 := (d + 1)) (b2 := 0) (b3 := b) cwX12_people mlX12_87 imX12_people seX12_people (by decide +kernel) rfl (ci := 10) rfl (OB.at (ci := 10) (show shp 171 = (20, 0) by decide +kernel) (by decide)) (Nat.le_refl _) (Nat.le_of_eq (Nat.zero_add _)) rfl rfl (by simp [oneSlot]) (Nat.le_of_ble_eq_true rfl) (c_people ?_)
  show AW Γ l mX12_sumOfAll (d + 2) b 9 [vR 171, vI x1, vI y2, vI y3] [vI (g 172 0), vI y3] (stt g) K
  refine ax_icmp_ge (off := 18) (tgt := 27) (x' := wr y3) (y' := wr (g 172 0)) (by decide +kernel) (by decide) rfl rfl (fun hc => ?_) (fun hc => ?_)
  · have hF := hF.1 hc
    refine aw_iload_n (k' := 2) (by decide +kernel) rfl ?_
    exact aw_iret (by decide +kernel) rfl hF
  · have hF := hF.2 hc
    refine aw_iload_n (k' := 2) (by decide +kernel) rfl ?_
    refine aw_aload_n (k' := 0) (by decide +kernel) rfl ?_
    refine aw_iload_n (k' := 3) (by decide +kernel) rfl ?_
    refine aw_iload_n (k' := 1) (by decide +kernel) rfl ?_
    refine aw_callV (y := yX12_of) (M2 := mX12_of) (as := [vI y3, vI x1]) (S := [vI y2]) (t := 171) (d2 := (d + 1)) (b2 := 0) (b3 := b) cwX12_of mlX12_84 imX12_of seX12_of (by decide +kernel) rfl (ci := 10) rfl (OB.at (ci := 10) (show shp 171 = (20, 0) by decide +kernel) (by decide)) (Nat.le_refl _) (Nat.le_of_eq (Nat.zero_add _)) rfl rfl (by simp [oneSlot]) (Nat.le_of_ble_eq_true rfl) (c_of hF.1 ?_)
    show AW Γ l mX12_sumOfAll (d + 2) b 19 [vR 171, vI x1, vI y2, vI y3] [vI (ofP g y3 x1), vI y2] (stt g) K
    replace hF := hF.2
    refine aw_iadd (by decide +kernel) ?_
    refine aw_istore_n (k' := 2) (by decide +kernel) (by decide) ?_
    show AW Γ l mX12_sumOfAll (d + 2) b 21 [vR 171, vI x1, vI (y2 + (ofP g y3 x1)), vI y3] [] (stt g) K
    refine aw_iinc (i := 3) (n := 1) (by decide +kernel) rfl (by decide) ?_
    show AW Γ l mX12_sumOfAll (d + 2) b 24 [vR 171, vI x1, vI (y2 + (ofP g y3 x1)), vI (y3 + 1)] [] (stt g) K
    refine aw_goto (off := -20) (tgt := 4) (by decide +kernel) (by decide) ?_
    exact hF

set_option maxHeartbeats 1000000 in
theorem wpX12_count {Γ : Cfg} {l : Launch} {d b : Nat} {g : GG} {K : Ou → HP → Prop} {x1 : Int} (hF : (wr x1 = 0 → K (.inl (vI ((upd2 g 171 0 0) 172 0))) (stt (upd2 g 171 0 0))) ∧ (wr x1 = 1 → K (.inl (vI ((upd2 g 171 0 0) 172 1))) (stt (upd2 g 171 0 0))) ∧ (wr x1 = 2 → (¬ wr ((upd2 g 171 0 0) 172 2) = 1 → K (.inl (vI (-1))) (stt (upd2 g 171 0 0))) ∧ (¬ (¬ wr ((upd2 g 171 0 0) 172 2) = 1) → K (.inl (vI ((upd2 g 171 0 0) 172 486))) (stt (upd2 g 171 0 0)))) ∧ (wr x1 = 3 → K (.inl (vI ((upd2 g 171 0 0) 172 3))) (stt (upd2 g 171 0 0))) ∧ (wr x1 = 4 → K (.inl (vI ((upd2 g 171 0 0) 172 4))) (stt (upd2 g 171 0 0))) ∧ (wr x1 = 5 → K (.inl (vI ((upd2 g 171 0 0) 172 5))) (stt (upd2 g 171 0 0))) ∧ (wr x1 = 6 → Ct Γ l d 0 yX12_sumOfAll mX12_sumOfAll [vR 171, vI 0] (stt (upd2 g 171 0 0)) (bI (fun v1 g1 => K (.inl (vI v1)) (stt g1)) K)) ∧ (wr x1 = 7 → Ct Γ l d 0 yX12_sumOfAll mX12_sumOfAll [vR 171, vI 2] (stt (upd2 g 171 0 0)) (bI (fun v2 g2 => K (.inl (vI v2)) (stt g2)) K)) ∧ (wr x1 = 8 → K (.inl (vI ((upd2 g 171 0 0) 172 6))) (stt (upd2 g 171 0 0))) ∧ (wr x1 = 9 → K (.inl (vI ((upd2 g 171 0 0) 171 7))) (stt (upd2 g 171 0 0))) ∧ ((wr x1 < 0 ∨ 9 < wr x1) → K (.inl (vI (-1))) (stt (upd2 g 171 0 0)))) : Ct Γ l (d + 1) b yX12_count mX12_count [vR 171, vI x1] (stt g) K := by
  refine Ct.enter (L := [vR 171, vI x1]) rfl rfl rfl (by decide +kernel) (by simp [oneSlot]) (Nat.le_of_ble_eq_true rfl) rfl ?_
  refine aw_aload_n (k' := 0) (by decide +kernel) rfl ?_
  refine aw_iconst (n := 0) (by decide +kernel) ?_
  refine pfX12_3 rfl (by decide +kernel) (OB.at (ci := 10) (show shp 171 = (20, 0) by decide +kernel) (by decide)) ?_
  show AW Γ l mX12_count (d + 1) b 5 [vR 171, vI x1] [] (stt (upd2 g 171 0 0)) K
  refine aw_iload_n (k' := 1) (by decide +kernel) rfl ?_
  refine ax_tsw (dflt := 135) (lo := 0) (hi := 9) (offs := #[54, 59, 66, 89, 96, 103, 110, 116, 122, 130]) (len := 54) [60, 65, 72, 95, 102, 109, 116, 122, 128, 136] 141 (by decide +kernel) (by decide) (by decide) (by decide) (by decide) (fun i hi hc => ?_) (fun hc => ?_)
  · match i, hi, hc with
    | 0, _, hc =>
      have hF := hF.1 (by simpa using hc)
      show AW Γ l mX12_count (d + 1) b 60 [vR 171, vI x1] [] (stt (upd2 g 171 0 0)) K
      refine aw_aload_n (k' := 0) (by decide +kernel) rfl ?_
      refine aw_callV (y := yX12_people) (M2 := mX12_people) (as := []) (S := []) (t := 171) (d2 := d) (b2 := 0) (b3 := b) cwX12_people mlX12_87 imX12_people seX12_people (by decide +kernel) rfl (ci := 10) rfl (OB.at (ci := 10) (show shp 171 = (20, 0) by decide +kernel) (by decide)) (Nat.le_refl _) (Nat.le_of_eq (Nat.zero_add _)) rfl rfl (by simp [oneSlot]) (Nat.le_of_ble_eq_true rfl) (c_people ?_)
      show AW Γ l mX12_count (d + 1) b 64 [vR 171, vI x1] [vI ((upd2 g 171 0 0) 172 0)] (stt (upd2 g 171 0 0)) K
      exact aw_iret (by decide +kernel) rfl hF
    | 1, _, hc =>
      have hF := hF.2.1 (by simpa using hc)
      show AW Γ l mX12_count (d + 1) b 65 [vR 171, vI x1] [] (stt (upd2 g 171 0 0)) K
      refine aw_aload_n (k' := 0) (by decide +kernel) rfl ?_
      refine gfX12_13 rfl (by decide +kernel) (OB.at (ci := 10) (show shp 171 = (20, 0) by decide +kernel) (by decide)) ?_
      refine AW.topR (show RC 171 1 = 172 by decide +kernel) ?_
      refine aw_iconst (n := 1) (by decide +kernel) ?_
      refine ax_iald (i := 1) (by decide +kernel) (isA_lit (show shp 172 = (0, 2184) by decide +kernel) (by decide)) (by decide +kernel) ⟨by decide, by decide⟩ ?_
      exact aw_iret (by decide +kernel) rfl hF
    | 2, _, hc =>
      have hF := hF.2.2.1 (by simpa using hc)
      show AW Γ l mX12_count (d + 1) b 72 [vR 171, vI x1] [] (stt (upd2 g 171 0 0)) K
      refine aw_aload_n (k' := 0) (by decide +kernel) rfl ?_
      refine gfX12_13 rfl (by decide +kernel) (OB.at (ci := 10) (show shp 171 = (20, 0) by decide +kernel) (by decide)) ?_
      refine AW.topR (show RC 171 1 = 172 by decide +kernel) ?_
      refine aw_iconst (n := 2) (by decide +kernel) ?_
      refine ax_iald (i := 2) (by decide +kernel) (isA_lit (show shp 172 = (0, 2184) by decide +kernel) (by decide)) (by decide +kernel) ⟨by decide, by decide⟩ ?_
      refine aw_iconst (n := 1) (by decide +kernel) ?_
      refine ax_icmp_ne (off := 14) (tgt := 93) (x' := wr ((upd2 g 171 0 0) 172 2)) (y' := 1) (by decide +kernel) (by decide) rfl (by decide +kernel) (fun hc => ?_) (fun hc => ?_)
      · have hF := hF.1 hc
        refine aw_iconst (n := -1) (by decide +kernel) ?_
        exact aw_iret (by decide +kernel) rfl hF
      · have hF := hF.2 hc
        refine aw_aload_n (k' := 0) (by decide +kernel) rfl ?_
        refine gfX12_13 rfl (by decide +kernel) (OB.at (ci := 10) (show shp 171 = (20, 0) by decide +kernel) (by decide)) ?_
        refine AW.topR (show RC 171 1 = 172 by decide +kernel) ?_
        refine aw_sipush (n := 486) (by decide +kernel) (by decide +kernel) ?_
        refine ax_iald (i := 486) (by decide +kernel) (isA_lit (show shp 172 = (0, 2184) by decide +kernel) (by decide)) (by decide +kernel) ⟨by decide, by decide⟩ ?_
        refine aw_goto (off := 4) (tgt := 94) (by decide +kernel) (by decide) ?_
        exact aw_iret (by decide +kernel) rfl hF
    | 3, _, hc =>
      have hF := hF.2.2.2.1 (by simpa using hc)
      show AW Γ l mX12_count (d + 1) b 95 [vR 171, vI x1] [] (stt (upd2 g 171 0 0)) K
      refine aw_aload_n (k' := 0) (by decide +kernel) rfl ?_
      refine gfX12_13 rfl (by decide +kernel) (OB.at (ci := 10) (show shp 171 = (20, 0) by decide +kernel) (by decide)) ?_
      refine AW.topR (show RC 171 1 = 172 by decide +kernel) ?_
      refine aw_iconst (n := 3) (by decide +kernel) ?_
      refine ax_iald (i := 3) (by decide +kernel) (isA_lit (show shp 172 = (0, 2184) by decide +kernel) (by decide)) (by decide +kernel) ⟨by decide, by decide⟩ ?_
      exact aw_iret (by decide +kernel) rfl hF
    | 4, _, hc =>
      have hF := hF.2.2.2.2.1 (by simpa using hc)
      show AW Γ l mX12_count (d + 1) b 102 [vR 171, vI x1] [] (stt (upd2 g 171 0 0)) K
      refine aw_aload_n (k' := 0) (by decide +kernel) rfl ?_
      refine gfX12_13 rfl (by decide +kernel) (OB.at (ci := 10) (show shp 171 = (20, 0) by decide +kernel) (by decide)) ?_
      refine AW.topR (show RC 171 1 = 172 by decide +kernel) ?_
      refine aw_iconst (n := 4) (by decide +kernel) ?_
      refine ax_iald (i := 4) (by decide +kernel) (isA_lit (show shp 172 = (0, 2184) by decide +kernel) (by decide)) (by decide +kernel) ⟨by decide, by decide⟩ ?_
      exact aw_iret (by decide +kernel) rfl hF
    | 5, _, hc =>
      have hF := hF.2.2.2.2.2.1 (by simpa using hc)
      show AW Γ l mX12_count (d + 1) b 109 [vR 171, vI x1] [] (stt (upd2 g 171 0 0)) K
      refine aw_aload_n (k' := 0) (by decide +kernel) rfl ?_
      refine gfX12_13 rfl (by decide +kernel) (OB.at (ci := 10) (show shp 171 = (20, 0) by decide +kernel) (by decide)) ?_
      refine AW.topR (show RC 171 1 = 172 by decide +kernel) ?_
      refine aw_iconst (n := 5) (by decide +kernel) ?_
      refine ax_iald (i := 5) (by decide +kernel) (isA_lit (show shp 172 = (0, 2184) by decide +kernel) (by decide)) (by decide +kernel) ⟨by decide, by decide⟩ ?_
      exact aw_iret (by decide +kernel) rfl hF
    | 6, _, hc =>
      have hF := hF.2.2.2.2.2.2.1 (by simpa using hc)
      show AW Γ l mX12_count (d + 1) b 116 [vR 171, vI x1] [] (stt (upd2 g 171 0 0)) K
      refine aw_aload_n (k' := 0) (by decide +kernel) rfl ?_
      refine aw_iconst (n := 0) (by decide +kernel) ?_
      refine aw_callV (y := yX12_sumOfAll) (M2 := mX12_sumOfAll) (as := [vI 0]) (S := []) (t := 171) (d2 := d) (b2 := 0) (b3 := b) cwX12_sumOfAll mlX12_505 imX12_sumOfAll seX12_sumOfAll (by decide +kernel) rfl (ci := 10) rfl (OB.at (ci := 10) (show shp 171 = (20, 0) by decide +kernel) (by decide)) (Nat.le_refl _) (Nat.le_of_eq (Nat.zero_add _)) rfl rfl (by simp [oneSlot]) (Nat.le_of_ble_eq_true rfl) (Ct.mono hF ?_)
      rintro o h' (⟨v1, g1, rfl, rfl, hG⟩ | ⟨E, g, rfl, rfl, hG⟩)
      · show AW Γ l mX12_count (d + 1) b 121 [vR 171, vI x1] [vI v1] (stt g1) K
        exact aw_iret (by decide +kernel) rfl hG
      · exact hG
    | 7, _, hc =>
      have hF := hF.2.2.2.2.2.2.2.1 (by simpa using hc)
      show AW Γ l mX12_count (d + 1) b 122 [vR 171, vI x1] [] (stt (upd2 g 171 0 0)) K
      refine aw_aload_n (k' := 0) (by decide +kernel) rfl ?_
      refine aw_iconst (n := 2) (by decide +kernel) ?_
      refine aw_callV (y := yX12_sumOfAll) (M2 := mX12_sumOfAll) (as := [vI 2]) (S := []) (t := 171) (d2 := d) (b2 := 0) (b3 := b) cwX12_sumOfAll mlX12_505 imX12_sumOfAll seX12_sumOfAll (by decide +kernel) rfl (ci := 10) rfl (OB.at (ci := 10) (show shp 171 = (20, 0) by decide +kernel) (by decide)) (Nat.le_refl _) (Nat.le_of_eq (Nat.zero_add _)) rfl rfl (by simp [oneSlot]) (Nat.le_of_ble_eq_true rfl) (Ct.mono hF ?_)
      rintro o h' (⟨v2, g2, rfl, rfl, hG⟩ | ⟨E, g, rfl, rfl, hG⟩)
      · show AW Γ l mX12_count (d + 1) b 127 [vR 171, vI x1] [vI v2] (stt g2) K
        exact aw_iret (by decide +kernel) rfl hG
      · exact hG
    | 8, _, hc =>
      have hF := hF.2.2.2.2.2.2.2.2.1 (by simpa using hc)
      show AW Γ l mX12_count (d + 1) b 128 [vR 171, vI x1] [] (stt (upd2 g 171 0 0)) K
      refine aw_aload_n (k' := 0) (by decide +kernel) rfl ?_
      refine gfX12_13 rfl (by decide +kernel) (OB.at (ci := 10) (show shp 171 = (20, 0) by decide +kernel) (by decide)) ?_
      refine AW.topR (show RC 171 1 = 172 by decide +kernel) ?_
      refine aw_bipush (n := 6) (by decide +kernel) (by decide +kernel) ?_
      refine ax_iald (i := 6) (by decide +kernel) (isA_lit (show shp 172 = (0, 2184) by decide +kernel) (by decide)) (by decide +kernel) ⟨by decide, by decide⟩ ?_
      exact aw_iret (by decide +kernel) rfl hF
    | 9, _, hc =>
      have hF := hF.2.2.2.2.2.2.2.2.2.1 (by simpa using hc)
      show AW Γ l mX12_count (d + 1) b 136 [vR 171, vI x1] [] (stt (upd2 g 171 0 0)) K
      refine aw_aload_n (k' := 0) (by decide +kernel) rfl ?_
      refine gfX12_77 rfl (by decide +kernel) (OB.at (ci := 10) (show shp 171 = (20, 0) by decide +kernel) (by decide)) ?_
      exact aw_iret (by decide +kernel) rfl hF
    | i + 10, hi, _ => exact absurd hi (by simp)
  · have hF := hF.2.2.2.2.2.2.2.2.2.2 hc
    refine aw_iconst (n := -1) (by decide +kernel) ?_
    exact aw_iret (by decide +kernel) rfl hF

