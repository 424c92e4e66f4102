/-! WALKS: the reference, part 2 -/
set_option maxHeartbeats 1000000 in
theorem wpX12_isLaid {Γ : Cfg} {l : Launch} {d b : Nat} {g : GG} {K : Ou → HP → Prop}  (hF : (0 ≤ wr (((6 * (g 171 19)) - 6) + 0) ∧ wr (((6 * (g 171 19)) - 6) + 0) < 30) ∧ ((¬ wr (g 179 (wr (((6 * (g 171 19)) - 6) + 0))) = 0 → (0 ≤ wr (((6 * (g 171 19)) - 6) + 0) ∧ wr (((6 * (g 171 19)) - 6) + 0) < 30) ∧ (AW Γ l mX12_isLaid d b 50 [vR 171, vI (6 * (g 171 19)), vI ((6 * (g 171 19)) - 6)] [vI (g 179 (wr (((6 * (g 171 19)) - 6) + 0))), vI (((6 * (g 171 19)) - 6) + 0), vR 179] (stt g) K)) ∧ (¬ (¬ wr (g 179 (wr (((6 * (g 171 19)) - 6) + 0))) = 0) → (0 ≤ wr ((6 * (g 171 19)) + 0) ∧ wr ((6 * (g 171 19)) + 0) < 30) ∧ (AW Γ l mX12_isLaid d b 50 [vR 171, vI (6 * (g 171 19)), vI ((6 * (g 171 19)) - 6)] [vI (g 179 (wr ((6 * (g 171 19)) + 0))), vI (((6 * (g 171 19)) - 6) + 0), vR 179] (stt g) K)))) : Ct Γ l d b yX12_isLaid mX12_isLaid [vR 171] (stt g) K := by
  refine Ct.enter (L := [vR 171, vU, vU]) rfl rfl rfl (by decide +kernel) (by simp [oneSlot]) (Nat.le_of_ble_eq_true rfl) rfl ?_
  refine aw_bipush (n := 6) (by decide +kernel) (by decide +kernel) ?_
  refine aw_aload_n (k' := 0) (by decide +kernel) rfl ?_
  refine gfX12_282 rfl (by decide +kernel) (OB.at (ci := 10) (show shp 171 = (20, 0) by decide +kernel) (by decide)) ?_
  refine aw_imul (by decide +kernel) ?_
  refine aw_istore_n (k' := 1) (by decide +kernel) (by decide) ?_
  show AW Γ l mX12_isLaid d b 8 [vR 171, vI (6 * (g 171 19)), vU] [] (stt g) K
  refine aw_iload_n (k' := 1) (by decide +kernel) rfl ?_
  refine aw_bipush (n := 6) (by decide +kernel) (by decide +kernel) ?_
  refine aw_isub (by decide +kernel) ?_
  refine aw_istore_n (k' := 2) (by decide +kernel) (by decide) ?_
  show AW Γ l mX12_isLaid d b 13 [vR 171, vI (6 * (g 171 19)), vI ((6 * (g 171 19)) - 6)] [] (stt g) K
  refine aw_aload_n (k' := 0) (by decide +kernel) rfl ?_
  refine gfX12_39 rfl (by decide +kernel) (OB.at (ci := 10) (show shp 171 = (20, 0) by decide +kernel) (by decide)) ?_
  refine AW.topR (show RC 171 18 = 179 by decide +kernel) ?_
  refine aw_iload_n (k' := 2) (by decide +kernel) rfl ?_
  refine aw_iconst (n := 0) (by decide +kernel) ?_
  refine aw_iadd (by decide +kernel) ?_
  refine aw_aload_n (k' := 0) (by decide +kernel) rfl ?_
  refine gfX12_39 rfl (by decide +kernel) (OB.at (ci := 10) (show shp 171 = (20, 0) by decide +kernel) (by decide)) ?_
  refine AW.topR (show RC 171 18 = 179 by decide +kernel) ?_
  refine aw_iload_n (k' := 2) (by decide +kernel) rfl ?_
  refine aw_iconst (n := 0) (by decide +kernel) ?_
  refine aw_iadd (by decide +kernel) ?_
  refine ax_iald (i := wr (((6 * (g 171 19)) - 6) + 0)) (by decide +kernel) (isA_lit (show shp 179 = (0, 30) by decide +kernel) (by decide)) rfl hF.1 ?_
  replace hF := hF.2
  refine ax_if_ne (off := 14) (tgt := 42) (x' := wr (g 179 (wr (((6 * (g 171 19)) - 6) + 0)))) (by decide +kernel) (by decide) rfl (fun hc => ?_) (fun hc => ?_)
  · have hF := hF.1 hc
    refine aw_aload_n (k' := 0) (by decide +kernel) rfl ?_
    refine gfX12_39 rfl (by decide +kernel) (OB.at (ci := 10) (show shp 171 = (20, 0) by decide +kernel) (by decide)) ?_
    refine AW.topR (show RC 171 18 = 179 by decide +kernel) ?_
    refine aw_iload_n (k' := 2) (by decide +kernel) rfl ?_
    refine aw_iconst (n := 0) (by decide +kernel) ?_
    refine aw_iadd (by decide +kernel) ?_
    refine ax_iald (i := wr (((6 * (g 171 19)) - 6) + 0)) (by decide +kernel) (isA_lit (show shp 179 = (0, 30) by decide +kernel) (by decide)) rfl hF.1 ?_
    replace hF := hF.2
    exact hF
  · have hF := hF.2 hc
    refine aw_aload_n (k' := 0) (by decide +kernel) rfl ?_
    refine gfX12_39 rfl (by decide +kernel) (OB.at (ci := 10) (show shp 171 = (20, 0) by decide +kernel) (by decide)) ?_
    refine AW.topR (show RC 171 18 = 179 by decide +kernel) ?_
    refine aw_iload_n (k' := 1) (by decide +kernel) rfl ?_
    refine aw_iconst (n := 0) (by decide +kernel) ?_
    refine aw_iadd (by decide +kernel) ?_
    refine ax_iald (i := wr ((6 * (g 171 19)) + 0)) (by decide +kernel) (isA_lit (show shp 179 = (0, 30) by decide +kernel) (by decide)) rfl hF.1 ?_
    replace hF := hF.2
    refine aw_goto (off := 11) (tgt := 50) (by decide +kernel) (by decide) ?_
    exact hF
set_option maxHeartbeats 1000000 in
theorem wpX12_isLaid_50 {Γ : Cfg} {l : Launch} {d b : Nat} {g : GG} {K : Ou → HP → Prop} {y1 : Int} {y2 : Int} {s0 : Int} {s1 : Int} (hF : (0 ≤ wr s1 ∧ wr s1 < 30) ∧ ((0 ≤ wr (y2 + 1) ∧ wr (y2 + 1) < 30) ∧ ((0 ≤ wr (y1 + 1) ∧ wr (y1 + 1) < 30) ∧ ((0 ≤ wr (y2 + 1) ∧ wr (y2 + 1) < 30) ∧ (∀ g1 : GG, g1 = upd2 (upd2 g 179 (wr s1) s0) 179 (wr (y2 + 1)) (iMin 99 (((upd2 g 179 (wr s1) s0) 179 (wr (y2 + 1))) + ((upd2 g 179 (wr s1) s0) 179 (wr (y1 + 1))))) → (0 ≤ wr (y2 + 2) ∧ wr (y2 + 2) < 30) ∧ ((0 ≤ wr (y1 + 2) ∧ wr (y1 + 2) < 30) ∧ ((0 ≤ wr (y2 + 2) ∧ wr (y2 + 2) < 30) ∧ (∀ g2 : GG, g2 = upd2 g1 179 (wr (y2 + 2)) (iOr (g1 179 (wr (y2 + 2))) (g1 179 (wr (y1 + 2)))) → (0 ≤ wr (y2 + 4) ∧ wr (y2 + 4) < 30) ∧ ((0 ≤ wr (y1 + 4) ∧ wr (y1 + 4) < 30) ∧ ((0 ≤ wr (y2 + 4) ∧ wr (y2 + 4) < 30) ∧ (∀ g3 : GG, g3 = upd2 g2 179 (wr (y2 + 4)) (iOr (g2 179 (wr (y2 + 4))) (g2 179 (wr (y1 + 4)))) → (0 ≤ wr (y2 + 3) ∧ wr (y2 + 3) < 30) ∧ ((0 ≤ wr (y1 + 3) ∧ wr (y1 + 3) < 30) ∧ ((0 ≤ wr (y2 + 3) ∧ wr (y2 + 3) < 30) ∧ (∀ g4 : GG, g4 = upd2 g3 179 (wr (y2 + 3)) (iMin (g3 179 (wr (y2 + 3))) (g3 179 (wr (y1 + 3)))) → (0 ≤ wr (y2 + 5) ∧ wr (y2 + 5) < 30) ∧ ((0 ≤ wr (y1 + 5) ∧ wr (y1 + 5) < 30) ∧ ((0 ≤ wr (y2 + 5) ∧ wr (y2 + 5) < 30) ∧ (∀ g5 : GG, g5 = upd2 g4 179 (wr (y2 + 5)) (iXor (g4 179 (wr (y2 + 5))) (g4 179 (wr (y1 + 5)))) → K (.inl vU) (stt (upd2 g5 171 19 ((g5 171 19) - 1)))))))))))))))))))) : AW Γ l mX12_isLaid d b 50 [vR 171, vI y1, vI y2] [vI s0, vI s1, vR 179] (stt g) K := by
  refine ax_iast (i := wr s1) (by decide +kernel) (isA_lit (show shp 179 = (0, 30) by decide +kernel) (by decide)) rfl hF.1 ?_
  show AW Γ l mX12_isLaid d b 51 [vR 171, vI y1, vI y2] [] (stt (upd2 g 179 (wr s1) s0)) K
  replace hF := hF.2
  refine aw_aload_n (k' := 0) (by decide +kernel) rfl ?_
  refine gfX12_39 rfl (by decide +kernel) (OB.at (ci := 10) (show shp 171 = (20, 0) by decide +kernel) (by decide)) ?_
  refine AW.topR (show RC 171 18 = 179 by decide +kernel) ?_
  refine aw_iload_n (k' := 2) (by decide +kernel) rfl ?_
  refine aw_iconst (n := 1) (by decide +kernel) ?_
  refine aw_iadd (by decide +kernel) ?_
  refine aw_bipush (n := 99) (by decide +kernel) (by decide +kernel) ?_
  refine aw_aload_n (k' := 0) (by decide +kernel) rfl ?_
  refine gfX12_39 rfl (by decide +kernel) (OB.at (ci := 10) (show shp 171 = (20, 0) by decide +kernel) (by decide)) ?_
  refine AW.topR (show RC 171 18 = 179 by decide +kernel) ?_
  refine aw_iload_n (k' := 2) (by decide +kernel) rfl ?_
  refine aw_iconst (n := 1) (by decide +kernel) ?_
  refine aw_iadd (by decide +kernel) ?_
  refine ax_iald (i := wr (y2 + 1)) (by decide +kernel) (isA_lit (show shp 179 = (0, 30) by decide +kernel) (by decide)) rfl hF.1 ?_
  replace hF := hF.2
  refine aw_aload_n (k' := 0) (by decide +kernel) rfl ?_
  refine gfX12_39 rfl (by decide +kernel) (OB.at (ci := 10) (show shp 171 = (20, 0) by decide +kernel) (by decide)) ?_
  refine AW.topR (show RC 171 18 = 179 by decide +kernel) ?_
  refine aw_iload_n (k' := 1) (by decide +kernel) rfl ?_
  refine aw_iconst (n := 1) (by decide +kernel) ?_
  refine aw_iadd (by decide +kernel) ?_
  refine ax_iald (i := wr (y1 + 1)) (by decide +kernel) (isA_lit (show shp 179 = (0, 30) by decide +kernel) (by decide)) rfl hF.1 ?_
  replace hF := hF.2
  refine aw_iadd (by decide +kernel) ?_
  refine aw_mmin (by decide +kernel) mlX12_285 stJ9_min_7cf53 cwM_init cwM_min (by simp [oneSlot]) (Nat.le_of_ble_eq_true rfl) ?_
  refine ax_iast (i := wr (y2 + 1)) (by decide +kernel) (isA_lit (show shp 179 = (0, 30) by decide +kernel) (by decide)) rfl hF.1 ?_
  show AW Γ l mX12_isLaid d b 81 [vR 171, vI y1, vI y2] [] (stt (upd2 (upd2 g 179 (wr s1) s0) 179 (wr (y2 + 1)) (iMin 99 (((upd2 g 179 (wr s1) s0) 179 (wr (y2 + 1))) + ((upd2 g 179 (wr s1) s0) 179 (wr (y1 + 1))))))) K
  replace hF := hF.2
  show AW Γ l mX12_isLaid d b 81 [vR 171, vI y1, vI y2] [] (stt (upd2 (upd2 g 179 (wr s1) s0) 179 (wr (y2 + 1)) (iMin 99 (((upd2 g 179 (wr s1) s0) 179 (wr (y2 + 1))) + ((upd2 g 179 (wr s1) s0) 179 (wr (y1 + 1))))))) K
  generalize eg1 : upd2 (upd2 g 179 (wr s1) s0) 179 (wr (y2 + 1)) (iMin 99 (((upd2 g 179 (wr s1) s0) 179 (wr (y2 + 1))) + ((upd2 g 179 (wr s1) s0) 179 (wr (y1 + 1))))) = g1
  replace hF := hF g1 eg1.symm
  refine aw_aload_n (k' := 0) (by decide +kernel) rfl ?_
  refine gfX12_39 rfl (by decide +kernel) (OB.at (ci := 10) (show shp 171 = (20, 0) by decide +kernel) (by decide)) ?_
  refine AW.topR (show RC 171 18 = 179 by decide +kernel) ?_
  refine aw_iload_n (k' := 2) (by decide +kernel) rfl ?_
  refine aw_iconst (n := 2) (by decide +kernel) ?_
  refine aw_iadd (by decide +kernel) ?_
  refine aw_dup2 (by decide +kernel) trivial trivial ?_
  refine ax_iald (i := wr (y2 + 2)) (by decide +kernel) (isA_lit (show shp 179 = (0, 30) by decide +kernel) (by decide)) rfl hF.1 ?_
  replace hF := hF.2
  refine aw_aload_n (k' := 0) (by decide +kernel) rfl ?_
  refine gfX12_39 rfl (by decide +kernel) (OB.at (ci := 10) (show shp 171 = (20, 0) by decide +kernel) (by decide)) ?_
  refine AW.topR (show RC 171 18 = 179 by decide +kernel) ?_
  refine aw_iload_n (k' := 1) (by decide +kernel) rfl ?_
  refine aw_iconst (n := 2) (by decide +kernel) ?_
  refine aw_iadd (by decide +kernel) ?_
  refine ax_iald (i := wr (y1 + 2)) (by decide +kernel) (isA_lit (show shp 179 = (0, 30) by decide +kernel) (by decide)) rfl hF.1 ?_
  replace hF := hF.2
  refine aw_ior (by decide +kernel) ?_
  refine ax_iast (i := wr (y2 + 2)) (by decide +kernel) (isA_lit (show shp 179 = (0, 30) by decide +kernel) (by decide)) rfl hF.1 ?_
  show AW Γ l mX12_isLaid d b 100 [vR 171, vI y1, vI y2] [] (stt (upd2 g1 179 (wr (y2 + 2)) (iOr (g1 179 (wr (y2 + 2))) (g1 179 (wr (y1 + 2)))))) K
  replace hF := hF.2
  show AW Γ l mX12_isLaid d b 100 [vR 171, vI y1, vI y2] [] (stt (upd2 g1 179 (wr (y2 + 2)) (iOr (g1 179 (wr (y2 + 2))) (g1 179 (wr (y1 + 2)))))) K
  generalize eg2 : upd2 g1 179 (wr (y2 + 2)) (iOr (g1 179 (wr (y2 + 2))) (g1 179 (wr (y1 + 2)))) = g2
  replace hF := hF g2 eg2.symm
  refine aw_aload_n (k' := 0) (by decide +kernel) rfl ?_
  refine gfX12_39 rfl (by decide +kernel) (OB.at (ci := 10) (show shp 171 = (20, 0) by decide +kernel) (by decide)) ?_
  refine AW.topR (show RC 171 18 = 179 by decide +kernel) ?_
  refine aw_iload_n (k' := 2) (by decide +kernel) rfl ?_
  refine aw_iconst (n := 4) (by decide +kernel) ?_
  refine aw_iadd (by decide +kernel) ?_
  refine aw_dup2 (by decide +kernel) trivial trivial ?_
  refine ax_iald (i := wr (y2 + 4)) (by decide +kernel) (isA_lit (show shp 179 = (0, 30) by decide +kernel) (by decide)) rfl hF.1 ?_
  replace hF := hF.2
  refine aw_aload_n (k' := 0) (by decide +kernel) rfl ?_
  refine gfX12_39 rfl (by decide +kernel) (OB.at (ci := 10) (show shp 171 = (20, 0) by decide +kernel) (by decide)) ?_
  refine AW.topR (show RC 171 18 = 179 by decide +kernel) ?_
  refine aw_iload_n (k' := 1) (by decide +kernel) rfl ?_
  refine aw_iconst (n := 4) (by decide +kernel) ?_
  refine aw_iadd (by decide +kernel) ?_
  refine ax_iald (i := wr (y1 + 4)) (by decide +kernel) (isA_lit (show shp 179 = (0, 30) by decide +kernel) (by decide)) rfl hF.1 ?_
  replace hF := hF.2
  refine aw_ior (by decide +kernel) ?_
  refine ax_iast (i := wr (y2 + 4)) (by decide +kernel) (isA_lit (show shp 179 = (0, 30) by decide +kernel) (by decide)) rfl hF.1 ?_
  show AW Γ l mX12_isLaid d b 119 [vR 171, vI y1, vI y2] [] (stt (upd2 g2 179 (wr (y2 + 4)) (iOr (g2 179 (wr (y2 + 4))) (g2 179 (wr (y1 + 4)))))) K
  replace hF := hF.2
  show AW Γ l mX12_isLaid d b 119 [vR 171, vI y1, vI y2] [] (stt (upd2 g2 179 (wr (y2 + 4)) (iOr (g2 179 (wr (y2 + 4))) (g2 179 (wr (y1 + 4)))))) K
  generalize eg3 : upd2 g2 179 (wr (y2 + 4)) (iOr (g2 179 (wr (y2 + 4))) (g2 179 (wr (y1 + 4)))) = g3
  replace hF := hF g3 eg3.symm
  refine aw_aload_n (k' := 0) (by decide +kernel) rfl ?_
  refine gfX12_39 rfl (by decide +kernel) (OB.at (ci := 10) (show shp 171 = (20, 0) by decide +kernel) (by decide)) ?_
  refine AW.topR (show RC 171 18 = 179 by decide +kernel) ?_
  refine aw_iload_n (k' := 2) (by decide +kernel) rfl ?_
  refine aw_iconst (n := 3) (by decide +kernel) ?_
  refine aw_iadd (by decide +kernel) ?_
  refine aw_aload_n (k' := 0) (by decide +kernel) rfl ?_
  refine gfX12_39 rfl (by decide +kernel) (OB.at (ci := 10) (show shp 171 = (20, 0) by decide +kernel) (by decide)) ?_
  refine AW.topR (show RC 171 18 = 179 by decide +kernel) ?_
  refine aw_iload_n (k' := 2) (by decide +kernel) rfl ?_
  refine aw_iconst (n := 3) (by decide +kernel) ?_
  refine aw_iadd (by decide +kernel) ?_
  refine ax_iald (i := wr (y2 + 3)) (by decide +kernel) (isA_lit (show shp 179 = (0, 30) by decide +kernel) (by decide)) rfl hF.1 ?_
  replace hF := hF.2
  refine aw_aload_n (k' := 0) (by decide +kernel) rfl ?_
  refine gfX12_39 rfl (by decide +kernel) (OB.at (ci := 10) (show shp 171 = (20, 0) by decide +kernel) (by decide)) ?_
  refine AW.topR (show RC 171 18 = 179 by decide +kernel) ?_
  refine aw_iload_n (k' := 1) (by decide +kernel) rfl ?_
  refine aw_iconst (n := 3) (by decide +kernel) ?_
  refine aw_iadd (by decide +kernel) ?_
  refine ax_iald (i := wr (y1 + 3)) (by decide +kernel) (isA_lit (show shp 179 = (0, 30) by decide +kernel) (by decide)) rfl hF.1 ?_
  replace hF := hF.2
  refine aw_mmin (by decide +kernel) mlX12_285 stJ9_min_7cf53 cwM_init cwM_min (by simp [oneSlot]) (Nat.le_of_ble_eq_true rfl) ?_
  refine ax_iast (i := wr (y2 + 3)) (by decide +kernel) (isA_lit (show shp 179 = (0, 30) by decide +kernel) (by decide)) rfl hF.1 ?_
  show AW Γ l mX12_isLaid d b 146 [vR 171, vI y1, vI y2] [] (stt (upd2 g3 179 (wr (y2 + 3)) (iMin (g3 179 (wr (y2 + 3))) (g3 179 (wr (y1 + 3)))))) K
  replace hF := hF.2
  show AW Γ l mX12_isLaid d b 146 [vR 171, vI y1, vI y2] [] (stt (upd2 g3 179 (wr (y2 + 3)) (iMin (g3 179 (wr (y2 + 3))) (g3 179 (wr (y1 + 3)))))) K
  generalize eg4 : upd2 g3 179 (wr (y2 + 3)) (iMin (g3 179 (wr (y2 + 3))) (g3 179 (wr (y1 + 3)))) = g4
  replace hF := hF g4 eg4.symm
  refine aw_aload_n (k' := 0) (by decide +kernel) rfl ?_
  refine gfX12_39 rfl (by decide +kernel) (OB.at (ci := 10) (show shp 171 = (20, 0) by decide +kernel) (by decide)) ?_
  refine AW.topR (show RC 171 18 = 179 by decide +kernel) ?_
  refine aw_iload_n (k' := 2) (by decide +kernel) rfl ?_
  refine aw_iconst (n := 5) (by decide +kernel) ?_
  refine aw_iadd (by decide +kernel) ?_
  refine aw_dup2 (by decide +kernel) trivial trivial ?_
  refine ax_iald (i := wr (y2 + 5)) (by decide +kernel) (isA_lit (show shp 179 = (0, 30) by decide +kernel) (by decide)) rfl hF.1 ?_
  replace hF := hF.2
  refine aw_aload_n (k' := 0) (by decide +kernel) rfl ?_
  refine gfX12_39 rfl (by decide +kernel) (OB.at (ci := 10) (show shp 171 = (20, 0) by decide +kernel) (by decide)) ?_
  refine AW.topR (show RC 171 18 = 179 by decide +kernel) ?_
  refine aw_iload_n (k' := 1) (by decide +kernel) rfl ?_
  refine aw_iconst (n := 5) (by decide +kernel) ?_
  refine aw_iadd (by decide +kernel) ?_
  refine ax_iald (i := wr (y1 + 5)) (by decide +kernel) (isA_lit (show shp 179 = (0, 30) by decide +kernel) (by decide)) rfl hF.1 ?_
  replace hF := hF.2
  refine aw_ixor (by decide +kernel) ?_
  refine ax_iast (i := wr (y2 + 5)) (by decide +kernel) (isA_lit (show shp 179 = (0, 30) by decide +kernel) (by decide)) rfl hF.1 ?_
  show AW Γ l mX12_isLaid d b 165 [vR 171, vI y1, vI y2] [] (stt (upd2 g4 179 (wr (y2 + 5)) (iXor (g4 179 (wr (y2 + 5))) (g4 179 (wr (y1 + 5)))))) K
  replace hF := hF.2
  show AW Γ l mX12_isLaid d b 165 [vR 171, vI y1, vI y2] [] (stt (upd2 g4 179 (wr (y2 + 5)) (iXor (g4 179 (wr (y2 + 5))) (g4 179 (wr (y1 + 5)))))) K
  generalize eg5 : upd2 g4 179 (wr (y2 + 5)) (iXor (g4 179 (wr (y2 + 5))) (g4 179 (wr (y1 + 5)))) = g5
  replace hF := hF g5 eg5.symm
  refine aw_aload_n (k' := 0) (by decide +kernel) rfl ?_
  refine aw_dup (by decide +kernel) trivial ?_
  refine gfX12_282 rfl (by decide +kernel) (OB.at (ci := 10) (show shp 171 = (20, 0) by decide +kernel) (by decide)) ?_
  refine aw_iconst (n := 1) (by decide +kernel) ?_
  refine aw_isub (by decide +kernel) ?_
  refine pfX12_282 rfl (by decide +kernel) (OB.at (ci := 10) (show shp 171 = (20, 0) by decide +kernel) (by decide)) ?_
  show AW Γ l mX12_isLaid d b 175 [vR 171, vI y1, vI y2] [] (stt (upd2 g5 171 19 ((g5 171 19) - 1))) K
  exact aw_vret (by decide +kernel) rfl hF

set_option maxHeartbeats 1000000 in
theorem wpX12_comes {Γ : Cfg} {l : Launch} {d b : Nat} {g : GG} {K : Ou → HP → Prop} {x1 : Int} {x2 : Int} (hF : (wr x1 = 3 → (0 ≤ wr ((6 * (g 171 19)) + 1) ∧ wr ((6 * (g 171 19)) + 1) < 30) ∧ ((0 ≤ wr ((6 * (g 171 19)) + 1) ∧ wr ((6 * (g 171 19)) + 1) < 30) ∧ (∀ g1 : GG, g1 = upd2 g 179 (wr ((6 * (g 171 19)) + 1)) (iMin 99 ((g 179 (wr ((6 * (g 171 19)) + 1))) + x2)) → K (.inl vU) (stt g1)))) ∧ (wr x1 = 4 → (0 ≤ wr ((6 * (g 171 19)) + 2) ∧ wr ((6 * (g 171 19)) + 2) < 30) ∧ ((0 ≤ wr ((6 * (g 171 19)) + 2) ∧ wr ((6 * (g 171 19)) + 2) < 30) ∧ (∀ g2 : GG, g2 = upd2 g 179 (wr ((6 * (g 171 19)) + 2)) (iOr (g 179 (wr ((6 * (g 171 19)) + 2))) (iShl 1 x2)) → K (.inl vU) (stt g2)))) ∧ (wr x1 = 5 → (0 ≤ wr ((6 * (g 171 19)) + 5) ∧ wr ((6 * (g 171 19)) + 5) < 30) ∧ ((0 ≤ wr ((6 * (g 171 19)) + 5) ∧ wr ((6 * (g 171 19)) + 5) < 30) ∧ (∀ g3 : GG, g3 = upd2 g 179 (wr ((6 * (g 171 19)) + 5)) (iXor (g 179 (wr ((6 * (g 171 19)) + 5))) 1) → K (.inl vU) (stt g3)))) ∧ (wr x1 = 6 → (0 ≤ wr ((6 * (g 171 19)) + 3) ∧ wr ((6 * (g 171 19)) + 3) < 30) ∧ ((0 ≤ wr ((6 * (g 171 19)) + 3) ∧ wr ((6 * (g 171 19)) + 3) < 30) ∧ (∀ g4 : GG, g4 = upd2 g 179 (wr ((6 * (g 171 19)) + 3)) (iMin (g 179 (wr ((6 * (g 171 19)) + 3))) x2) → K (.inl vU) (stt g4)))) ∧ (wr x1 = 7 → (0 ≤ wr ((6 * (g 171 19)) + 4) ∧ wr ((6 * (g 171 19)) + 4) < 30) ∧ ((0 ≤ wr ((6 * (g 171 19)) + 4) ∧ wr ((6 * (g 171 19)) + 4) < 30) ∧ (∀ g5 : GG, g5 = upd2 g 179 (wr ((6 * (g 171 19)) + 4)) (iOr (g 179 (wr ((6 * (g 171 19)) + 4))) (iShl 1 x2)) → K (.inl vU) (stt g5)))) ∧ (wr x1 = 8 → Ct Γ l d 0 yX12_begins mX12_begins [vR 171, vI ((g 171 19) + 1)] (stt g) (bV (fun g6 => K (.inl vU) (stt g6)) K)) ∧ (wr x1 = 9 → Ct Γ l d 0 yX12_isLaid mX12_isLaid [vR 171] (stt g) (bV (fun g7 => K (.inl vU) (stt g7)) K)) ∧ ((wr x1 < 3 ∨ 9 < wr x1) → (0 ≤ wr ((6 * (g 171 19)) + 0) ∧ wr ((6 * (g 171 19)) + 0) < 30) ∧ ((¬ wr (g 179 (wr ((6 * (g 171 19)) + 0))) = 0 → (0 ≤ wr ((6 * (g 171 19)) + 0) ∧ wr ((6 * (g 171 19)) + 0) < 30) ∧ ((0 ≤ wr ((6 * (g 171 19)) + 0) ∧ wr ((6 * (g 171 19)) + 0) < 30) ∧ (∀ g8 : GG, g8 = upd2 g 179 (wr ((6 * (g 171 19)) + 0)) (g 179 (wr ((6 * (g 171 19)) + 0))) → K (.inl vU) (stt g8)))) ∧ (¬ (¬ wr (g 179 (wr ((6 * (g 171 19)) + 0))) = 0) → (0 ≤ wr ((6 * (g 171 19)) + 0) ∧ wr ((6 * (g 171 19)) + 0) < 30) ∧ (∀ g9 : GG, g9 = upd2 g 179 (wr ((6 * (g 171 19)) + 0)) (x1 + 1) → K (.inl vU) (stt g9)))))) : Ct Γ l (d + 1) b yX12_comes mX12_comes [vR 171, vI x1, vI x2] (stt g) K := by
  refine Ct.enter (L := [vR 171, vI x1, vI x2, vU]) rfl rfl rfl (by decide +kernel) (by simp [oneSlot]) (Nat.le_of_ble_eq_true rfl) rfl ?_
  refine aw_bipush (n := 6) (by decide +kernel) (by decide +kernel) ?_
  refine aw_aload_n (k' := 0) (by decide +kernel) rfl ?_
  refine gfX12_282 rfl (by decide +kernel) (OB.at (ci := 10) (show shp 171 = (20, 0) by decide +kernel) (by decide)) ?_
  refine aw_imul (by decide +kernel) ?_
  refine aw_istore_n (k' := 3) (by decide +kernel) (by decide) ?_
  show AW Γ l mX12_comes (d + 1) b 8 [vR 171, vI x1, vI x2, vI (6 * (g 171 19))] [] (stt g) K
  refine aw_iload_n (k' := 1) (by decide +kernel) rfl ?_
  refine ax_tsw (dflt := 161) (lo := 3) (hi := 9) (offs := #[43, 69, 86, 101, 124, 141, 154]) (len := 43) [52, 78, 95, 110, 133, 150, 163] 170 (by decide +kernel) (by decide) (by decide) (by decide) (by decide) (fun i hi hc => ?_) (fun hc => ?_)
  · match i, hi, hc with
    | 0, _, hc =>
      have hF := hF.1 (by simpa using hc)
      show AW Γ l mX12_comes (d + 1) b 52 [vR 171, vI x1, vI x2, vI (6 * (g 171 19))] [] (stt g) K
      refine aw_aload_n (k' := 0) (by decide +kernel) rfl ?_
      refine gfX12_39 rfl (by decide +kernel) (OB.at (ci := 10) (show shp 171 = (20, 0) by decide +kernel) (by decide)) ?_
      refine AW.topR (show RC 171 18 = 179 by decide +kernel) ?_
      refine aw_iload_n (k' := 3) (by decide +kernel) rfl ?_
      refine aw_iconst (n := 1) (by decide +kernel) ?_
      refine aw_iadd (by decide +kernel) ?_
      refine aw_bipush (n := 99) (by decide +kernel) (by decide +kernel) ?_
      refine aw_aload_n (k' := 0) (by decide +kernel) rfl ?_
      refine gfX12_39 rfl (by decide +kernel) (OB.at (ci := 10) (show shp 171 = (20, 0) by decide +kernel) (by decide)) ?_
      refine AW.topR (show RC 171 18 = 179 by decide +kernel) ?_
      refine aw_iload_n (k' := 3) (by decide +kernel) rfl ?_
      refine aw_iconst (n := 1) (by decide +kernel) ?_
      refine aw_iadd (by decide +kernel) ?_
      refine ax_iald (i := wr ((6 * (g 171 19)) + 1)) (by decide +kernel) (isA_lit (show shp 179 = (0, 30) by decide +kernel) (by decide)) rfl hF.1 ?_
      replace hF := hF.2
      refine aw_iload_n (k' := 2) (by decide +kernel) rfl ?_
      refine aw_iadd (by decide +kernel) ?_
      refine aw_mmin (by decide +kernel) mlX12_285 stJ9_min_7cf53 cwM_init cwM_min (by simp [oneSlot]) (Nat.le_of_ble_eq_true rfl) ?_
      refine ax_iast (i := wr ((6 * (g 171 19)) + 1)) (by decide +kernel) (isA_lit (show shp 179 = (0, 30) by decide +kernel) (by decide)) rfl hF.1 ?_
      show AW Γ l mX12_comes (d + 1) b 75 [vR 171, vI x1, vI x2, vI (6 * (g 171 19))] [] (stt (upd2 g 179 (wr ((6 * (g 171 19)) + 1)) (iMin 99 ((g 179 (wr ((6 * (g 171 19)) + 1))) + x2)))) K
      replace hF := hF.2
      show AW Γ l mX12_comes (d + 1) b 75 [vR 171, vI x1, vI x2, vI (6 * (g 171 19))] [] (stt (upd2 g 179 (wr ((6 * (g 171 19)) + 1)) (iMin 99 ((g 179 (wr ((6 * (g 171 19)) + 1))) + x2)))) K
      generalize eg1 : upd2 g 179 (wr ((6 * (g 171 19)) + 1)) (iMin 99 ((g 179 (wr ((6 * (g 171 19)) + 1))) + x2)) = g1
      replace hF := hF g1 eg1.symm
      refine aw_goto (off := 128) (tgt := 203) (by decide +kernel) (by decide) ?_
      exact aw_vret (by decide +kernel) rfl hF
    | 1, _, hc =>
      have hF := hF.2.1 (by simpa using hc)
      show AW Γ l mX12_comes (d + 1) b 78 [vR 171, vI x1, vI x2, vI (6 * (g 171 19))] [] (stt g) K
      refine aw_aload_n (k' := 0) (by decide +kernel) rfl ?_
      refine gfX12_39 rfl (by decide +kernel) (OB.at (ci := 10) (show shp 171 = (20, 0) by decide +kernel) (by decide)) ?_
      refine AW.topR (show RC 171 18 = 179 by decide +kernel) ?_
      refine aw_iload_n (k' := 3) (by decide +kernel) rfl ?_
      refine aw_iconst (n := 2) (by decide +kernel) ?_
      refine aw_iadd (by decide +kernel) ?_
      refine aw_dup2 (by decide +kernel) trivial trivial ?_
      refine ax_iald (i := wr ((6 * (g 171 19)) + 2)) (by decide +kernel) (isA_lit (show shp 179 = (0, 30) by decide +kernel) (by decide)) rfl hF.1 ?_
      replace hF := hF.2
      refine aw_iconst (n := 1) (by decide +kernel) ?_
      refine aw_iload_n (k' := 2) (by decide +kernel) rfl ?_
      refine aw_ishl (by decide +kernel) ?_
      refine aw_ior (by decide +kernel) ?_
      refine ax_iast (i := wr ((6 * (g 171 19)) + 2)) (by decide +kernel) (isA_lit (show shp 179 = (0, 30) by decide +kernel) (by decide)) rfl hF.1 ?_
      show AW Γ l mX12_comes (d + 1) b 92 [vR 171, vI x1, vI x2, vI (6 * (g 171 19))] [] (stt (upd2 g 179 (wr ((6 * (g 171 19)) + 2)) (iOr (g 179 (wr ((6 * (g 171 19)) + 2))) (iShl 1 x2)))) K
      replace hF := hF.2
      show AW Γ l mX12_comes (d + 1) b 92 [vR 171, vI x1, vI x2, vI (6 * (g 171 19))] [] (stt (upd2 g 179 (wr ((6 * (g 171 19)) + 2)) (iOr (g 179 (wr ((6 * (g 171 19)) + 2))) (iShl 1 x2)))) K
      generalize eg2 : upd2 g 179 (wr ((6 * (g 171 19)) + 2)) (iOr (g 179 (wr ((6 * (g 171 19)) + 2))) (iShl 1 x2)) = g2
      replace hF := hF g2 eg2.symm
      refine aw_goto (off := 111) (tgt := 203) (by decide +kernel) (by decide) ?_
      exact aw_vret (by decide +kernel) rfl hF
    | 2, _, hc =>
      have hF := hF.2.2.1 (by simpa using hc)
      show AW Γ l mX12_comes (d + 1) b 95 [vR 171, vI x1, vI x2, vI (6 * (g 171 19))] [] (stt g) K
      refine aw_aload_n (k' := 0) (by decide +kernel) rfl ?_
      refine gfX12_39 rfl (by decide +kernel) (OB.at (ci := 10) (show shp 171 = (20, 0) by decide +kernel) (by decide)) ?_
      refine AW.topR (show RC 171 18 = 179 by decide +kernel) ?_
      refine aw_iload_n (k' := 3) (by decide +kernel) rfl ?_
      refine aw_iconst (n := 5) (by decide +kernel) ?_
      refine aw_iadd (by decide +kernel) ?_
      refine aw_dup2 (by decide +kernel) trivial trivial ?_
      refine ax_iald (i := wr ((6 * (g 171 19)) + 5)) (by decide +kernel) (isA_lit (show shp 179 = (0, 30) by decide +kernel) (by decide)) rfl hF.1 ?_
      replace hF := hF.2
      refine aw_iconst (n := 1) (by decide +kernel) ?_
      refine aw_ixor (by decide +kernel) ?_
      refine ax_iast (i := wr ((6 * (g 171 19)) + 5)) (by decide +kernel) (isA_lit (show shp 179 = (0, 30) by decide +kernel) (by decide)) rfl hF.1 ?_
      show AW Γ l mX12_comes (d + 1) b 107 [vR 171, vI x1, vI x2, vI (6 * (g 171 19))] [] (stt (upd2 g 179 (wr ((6 * (g 171 19)) + 5)) (iXor (g 179 (wr ((6 * (g 171 19)) + 5))) 1))) K
      replace hF := hF.2
      show AW Γ l mX12_comes (d + 1) b 107 [vR 171, vI x1, vI x2, vI (6 * (g 171 19))] [] (stt (upd2 g 179 (wr ((6 * (g 171 19)) + 5)) (iXor (g 179 (wr ((6 * (g 171 19)) + 5))) 1))) K
      generalize eg3 : upd2 g 179 (wr ((6 * (g 171 19)) + 5)) (iXor (g 179 (wr ((6 * (g 171 19)) + 5))) 1) = g3
      replace hF := hF g3 eg3.symm
      refine aw_goto (off := 96) (tgt := 203) (by decide +kernel) (by decide) ?_
      exact aw_vret (by decide +kernel) rfl hF
    | 3, _, hc =>
      have hF := hF.2.2.2.1 (by simpa using hc)
      show AW Γ l mX12_comes (d + 1) b 110 [vR 171, vI x1, vI x2, vI (6 * (g 171 19))] [] (stt g) K
      refine aw_aload_n (k' := 0) (by decide +kernel) rfl ?_
      refine gfX12_39 rfl (by decide +kernel) (OB.at (ci := 10) (show shp 171 = (20, 0) by decide +kernel) (by decide)) ?_
      refine AW.topR (show RC 171 18 = 179 by decide +kernel) ?_
      refine aw_iload_n (k' := 3) (by decide +kernel) rfl ?_
      refine aw_iconst (n := 3) (by decide +kernel) ?_
      refine aw_iadd (by decide +kernel) ?_
      refine aw_aload_n (k' := 0) (by decide +kernel) rfl ?_
      refine gfX12_39 rfl (by decide +kernel) (OB.at (ci := 10) (show shp 171 = (20, 0) by decide +kernel) (by decide)) ?_
      refine AW.topR (show RC 171 18 = 179 by decide +kernel) ?_
      refine aw_iload_n (k' := 3) (by decide +kernel) rfl ?_
      refine aw_iconst (n := 3) (by decide +kernel) ?_
      refine aw_iadd (by decide +kernel) ?_
      refine ax_iald (i := wr ((6 * (g 171 19)) + 3)) (by decide +kernel) (isA_lit (show shp 179 = (0, 30) by decide +kernel) (by decide)) rfl hF.1 ?_
      replace hF := hF.2
      refine aw_iload_n (k' := 2) (by decide +kernel) rfl ?_
      refine aw_mmin (by decide +kernel) mlX12_285 stJ9_min_7cf53 cwM_init cwM_min (by simp [oneSlot]) (Nat.le_of_ble_eq_true rfl) ?_
      refine ax_iast (i := wr ((6 * (g 171 19)) + 3)) (by decide +kernel) (isA_lit (show shp 179 = (0, 30) by decide +kernel) (by decide)) rfl hF.1 ?_
      show AW Γ l mX12_comes (d + 1) b 130 [vR 171, vI x1, vI x2, vI (6 * (g 171 19))] [] (stt (upd2 g 179 (wr ((6 * (g 171 19)) + 3)) (iMin (g 179 (wr ((6 * (g 171 19)) + 3))) x2))) K
      replace hF := hF.2
      show AW Γ l mX12_comes (d + 1) b 130 [vR 171, vI x1, vI x2, vI (6 * (g 171 19))] [] (stt (upd2 g 179 (wr ((6 * (g 171 19)) + 3)) (iMin (g 179 (wr ((6 * (g 171 19)) + 3))) x2))) K
      generalize eg4 : upd2 g 179 (wr ((6 * (g 171 19)) + 3)) (iMin (g 179 (wr ((6 * (g 171 19)) + 3))) x2) = g4
      replace hF := hF g4 eg4.symm
      refine aw_goto (off := 73) (tgt := 203) (by decide +kernel) (by decide) ?_
      exact aw_vret (by decide +kernel) rfl hF
    | 4, _, hc =>
      have hF := hF.2.2.2.2.1 (by simpa using hc)
      show AW Γ l mX12_comes (d + 1) b 133 [vR 171, vI x1, vI x2, vI (6 * (g 171 19))] [] (stt g) K
      refine aw_aload_n (k' := 0) (by decide +kernel) rfl ?_
      refine gfX12_39 rfl (by decide +kernel) (OB.at (ci := 10) (show shp 171 = (20, 0) by decide +kernel) (by decide)) ?_
      refine AW.topR (show RC 171 18 = 179 by decide +kernel) ?_
      refine aw_iload_n (k' := 3) (by decide +kernel) rfl ?_
      refine aw_iconst (n := 4) (by decide +kernel) ?_
      refine aw_iadd (by decide +kernel) ?_
      refine aw_dup2 (by decide +kernel) trivial trivial ?_
      refine ax_iald (i := wr ((6 * (g 171 19)) + 4)) (by decide +kernel) (isA_lit (show shp 179 = (0, 30) by decide +kernel) (by decide)) rfl hF.1 ?_
      replace hF := hF.2
      refine aw_iconst (n := 1) (by decide +kernel) ?_
      refine aw_iload_n (k' := 2) (by decide +kernel) rfl ?_
      refine aw_ishl (by decide +kernel) ?_
      refine aw_ior (by decide +kernel) ?_
      refine ax_iast (i := wr ((6 * (g 171 19)) + 4)) (by decide +kernel) (isA_lit (show shp 179 = (0, 30) by decide +kernel) (by decide)) rfl hF.1 ?_
      show AW Γ l mX12_comes (d + 1) b 147 [vR 171, vI x1, vI x2, vI (6 * (g 171 19))] [] (stt (upd2 g 179 (wr ((6 * (g 171 19)) + 4)) (iOr (g 179 (wr ((6 * (g 171 19)) + 4))) (iShl 1 x2)))) K
      replace hF := hF.2
      show AW Γ l mX12_comes (d + 1) b 147 [vR 171, vI x1, vI x2, vI (6 * (g 171 19))] [] (stt (upd2 g 179 (wr ((6 * (g 171 19)) + 4)) (iOr (g 179 (wr ((6 * (g 171 19)) + 4))) (iShl 1 x2)))) K
      generalize eg5 : upd2 g 179 (wr ((6 * (g 171 19)) + 4)) (iOr (g 179 (wr ((6 * (g 171 19)) + 4))) (iShl 1 x2)) = g5
      replace hF := hF g5 eg5.symm
      refine aw_goto (off := 56) (tgt := 203) (by decide +kernel) (by decide) ?_
      exact aw_vret (by decide +kernel) rfl hF
    | 5, _, hc =>
      have hF := hF.2.2.2.2.2.1 (by simpa using hc)
      show AW Γ l mX12_comes (d + 1) b 150 [vR 171, vI x1, vI x2, vI (6 * (g 171 19))] [] (stt g) K
      refine aw_aload_n (k' := 0) (by decide +kernel) rfl ?_
      refine aw_aload_n (k' := 0) (by decide +kernel) rfl ?_
      refine gfX12_282 rfl (by decide +kernel) (OB.at (ci := 10) (show shp 171 = (20, 0) by decide +kernel) (by decide)) ?_
      refine aw_iconst (n := 1) (by decide +kernel) ?_
      refine aw_iadd (by decide +kernel) ?_
      refine aw_callV (y := yX12_begins) (M2 := mX12_begins) (as := [vI ((g 171 19) + 1)]) (S := []) (t := 171) (d2 := d) (b2 := 0) (b3 := b) cwX12_begins mlX12_290 imX12_begins seX12_begins (by decide +kernel) rfl (ci := 10) rfl (OB.at (ci := 10) (show shp 171 = (20, 0) by decide +kernel) (by decide)) (Nat.le_refl _) (Nat.le_of_eq (Nat.zero_add _)) rfl rfl (by simp [oneSlot]) (Nat.le_of_ble_eq_true rfl) (Ct.mono hF ?_)
      rintro o h' (⟨g6, rfl, rfl, hG⟩ | ⟨E, g, rfl, rfl, hG⟩)
      · show AW Γ l mX12_comes (d + 1) b 160 [vR 171, vI x1, vI x2, vI (6 * (g 171 19))] [] (stt g6) K
        refine aw_goto (off := 43) (tgt := 203) (by decide +kernel) (by decide) ?_
        exact aw_vret (by decide +kernel) rfl hG
      · exact hG
    | 6, _, hc =>
      have hF := hF.2.2.2.2.2.2.1 (by simpa using hc)
      show AW Γ l mX12_comes (d + 1) b 163 [vR 171, vI x1, vI x2, vI (6 * (g 171 19))] [] (stt g) K
      refine aw_aload_n (k' := 0) (by decide +kernel) rfl ?_
      refine aw_callV (y := yX12_isLaid) (M2 := mX12_isLaid) (as := []) (S := []) (t := 171) (d2 := d) (b2 := 0) (b3 := b) cwX12_isLaid mlX12_294 imX12_isLaid seX12_isLaid (by decide +kernel) rfl (ci := 10) rfl (OB.at (ci := 10) (show shp 171 = (20, 0) by decide +kernel) (by decide)) (Nat.le_refl _) (Nat.le_of_eq (Nat.zero_add _)) rfl rfl (by simp [oneSlot]) (Nat.le_of_ble_eq_true rfl) (Ct.mono hF ?_)
      rintro o h' (⟨g7, rfl, rfl, hG⟩ | ⟨E, g, rfl, rfl, hG⟩)
      · show AW Γ l mX12_comes (d + 1) b 167 [vR 171, vI x1, vI x2, vI (6 * (g 171 19))] [] (stt g7) K
        refine aw_goto (off := 36) (tgt := 203) (by decide +kernel) (by decide) ?_
        exact aw_vret (by decide +kernel) rfl hG
      · exact hG
    | i + 7, hi, _ => exact absurd hi (by simp)
  · have hF := hF.2.2.2.2.2.2.2 hc
    refine aw_aload_n (k' := 0) (by decide +kernel) rfl ?_
    refine gfX12_39 rfl (by decide +kernel) (OB.at (ci := 10) (show shp 171 = (20, 0) by decide +kernel) (by decide)) ?_
    refine AW.topR (show RC 171 18 = 179 by decide +kernel) ?_
    refine aw_iload_n (k' := 3) (by decide +kernel) rfl ?_
    refine aw_iconst (n := 0) (by decide +kernel) ?_
    refine aw_iadd (by decide +kernel) ?_
    refine aw_aload_n (k' := 0) (by decide +kernel) rfl ?_
    refine gfX12_39 rfl (by decide +kernel) (OB.at (ci := 10) (show shp 171 = (20, 0) by decide +kernel) (by decide)) ?_
    refine AW.topR (show RC 171 18 = 179 by decide +kernel) ?_
    refine aw_iload_n (k' := 3) (by decide +kernel) rfl ?_
    refine aw_iconst (n := 0) (by decide +kernel) ?_
    refine aw_iadd (by decide +kernel) ?_
    refine ax_iald (i := wr ((6 * (g 171 19)) + 0)) (by decide +kernel) (isA_lit (show shp 179 = (0, 30) by decide +kernel) (by decide)) rfl hF.1 ?_
    replace hF := hF.2
    refine ax_if_ne (off := 9) (tgt := 194) (x' := wr (g 179 (wr ((6 * (g 171 19)) + 0)))) (by decide +kernel) (by decide) rfl (fun hc => ?_) (fun hc => ?_)
    · have hF := hF.1 hc
      refine aw_aload_n (k' := 0) (by decide +kernel) rfl ?_
      refine gfX12_39 rfl (by decide +kernel) (OB.at (ci := 10) (show shp 171 = (20, 0) by decide +kernel) (by decide)) ?_
      refine AW.topR (show RC 171 18 = 179 by decide +kernel) ?_
      refine aw_iload_n (k' := 3) (by decide +kernel) rfl ?_
      refine aw_iconst (n := 0) (by decide +kernel) ?_
      refine aw_iadd (by decide +kernel) ?_
      refine ax_iald (i := wr ((6 * (g 171 19)) + 0)) (by decide +kernel) (isA_lit (show shp 179 = (0, 30) by decide +kernel) (by decide)) rfl hF.1 ?_
      replace hF := hF.2
      refine ax_iast (i := wr ((6 * (g 171 19)) + 0)) (by decide +kernel) (isA_lit (show shp 179 = (0, 30) by decide +kernel) (by decide)) rfl hF.1 ?_
      show AW Γ l mX12_comes (d + 1) b 203 [vR 171, vI x1, vI x2, vI (6 * (g 171 19))] [] (stt (upd2 g 179 (wr ((6 * (g 171 19)) + 0)) (g 179 (wr ((6 * (g 171 19)) + 0))))) K
      replace hF := hF.2
      show AW Γ l mX12_comes (d + 1) b 203 [vR 171, vI x1, vI x2, vI (6 * (g 171 19))] [] (stt (upd2 g 179 (wr ((6 * (g 171 19)) + 0)) (g 179 (wr ((6 * (g 171 19)) + 0))))) K
      generalize eg8 : upd2 g 179 (wr ((6 * (g 171 19)) + 0)) (g 179 (wr ((6 * (g 171 19)) + 0))) = g8
      replace hF := hF g8 eg8.symm
      exact aw_vret (by decide +kernel) rfl hF
    · have hF := hF.2 hc
      refine aw_iload_n (k' := 1) (by decide +kernel) rfl ?_
      refine aw_iconst (n := 1) (by decide +kernel) ?_
      refine aw_iadd (by decide +kernel) ?_
      refine aw_goto (off := 11) (tgt := 202) (by decide +kernel) (by decide) ?_
      refine ax_iast (i := wr ((6 * (g 171 19)) + 0)) (by decide +kernel) (isA_lit (show shp 179 = (0, 30) by decide +kernel) (by decide)) rfl hF.1 ?_
      show AW Γ l mX12_comes (d + 1) b 203 [vR 171, vI x1, vI x2, vI (6 * (g 171 19))] [] (stt (upd2 g 179 (wr ((6 * (g 171 19)) + 0)) (x1 + 1))) K
      replace hF := hF.2
      show AW Γ l mX12_comes (d + 1) b 203 [vR 171, vI x1, vI x2, vI (6 * (g 171 19))] [] (stt (upd2 g 179 (wr ((6 * (g 171 19)) + 0)) (x1 + 1))) K
      generalize eg9 : upd2 g 179 (wr ((6 * (g 171 19)) + 0)) (x1 + 1) = g9
      replace hF := hF g9 eg9.symm
      exact aw_vret (by decide +kernel) rfl hF

set_option maxHeartbeats 1000000 in
theorem wpX12_endsClauses {Γ : Cfg} {l : Launch} {d b : Nat} {g : GG} {K : Ou → HP → Prop}  (hF : AW Γ l mX12_endsClauses (d + 1) b 2 [vR 171, vI 0, vU] [] (stt g) K) : Ct Γ l (d + 1) b yX12_endsClauses mX12_endsClauses [vR 171] (stt g) K := by
  refine Ct.enter (L := [vR 171, vU, vU]) rfl rfl rfl (by decide +kernel) (by simp [oneSlot]) (Nat.le_of_ble_eq_true rfl) rfl ?_
  refine aw_iconst (n := 0) (by decide +kernel) ?_
  refine aw_istore_n (k' := 1) (by decide +kernel) (by decide) ?_
  show AW Γ l mX12_endsClauses (d + 1) b 2 [vR 171, vI 0, vU] [] (stt g) K
  exact hF
set_option maxHeartbeats 1000000 in
theorem wpX12_endsClauses_2 {Γ : Cfg} {l : Launch} {d b : Nat} {g : GG} {K : Ou → HP → Prop} {y1 : Int} (hF : (wr (g 171 19) ≤ 0 → K (.inl vU) (stt g)) ∧ (¬ (wr (g 171 19) ≤ 0) → (0 ≤ wr (8 + y1) ∧ wr (8 + y1) < 2184) ∧ ((¬ wr (g 172 (wr (8 + y1))) = 2 → (¬ wr (g 172 (wr (8 + y1))) = 0 → Ct Γ l d 0 yX12_isLaid mX12_isLaid [vR 171] (stt g) (bV (fun g1 => AW Γ l mX12_endsClauses (d + 1) b 2 [vR 171, vI (y1 + 1), vI (g 172 (wr (8 + y1)))] [] (stt g1) K) K)) ∧ (¬ (¬ wr (g 172 (wr (8 + y1))) = 0) → AW Γ l mX12_endsClauses (d + 1) b 2 [vR 171, vI (y1 + 1), vI (g 172 (wr (8 + y1)))] [] (stt (upd2 g 171 19 ((g 171 19) - 1))) K)) ∧ (¬ (¬ wr (g 172 (wr (8 + y1))) = 2) → (0 ≤ wr ((6 * (g 171 19)) + 5) ∧ wr ((6 * (g 171 19)) + 5) < 30) ∧ ((0 ≤ wr ((6 * (g 171 19)) + 5) ∧ wr ((6 * (g 171 19)) + 5) < 30) ∧ (∀ g2 : GG, g2 = upd2 g 179 (wr ((6 * (g 171 19)) + 5)) (iXor (g 179 (wr ((6 * (g 171 19)) + 5))) 1) → (¬ wr (g 172 (wr (8 + y1))) = 0 → Ct Γ l d 0 yX12_isLaid mX12_isLaid [vR 171] (stt g2) (bV (fun g3 => AW Γ l mX12_endsClauses (d + 1) b 2 [vR 171, vI (y1 + 1), vI (g 172 (wr (8 + y1)))] [] (stt g3) K) K)) ∧ (¬ (¬ wr (g 172 (wr (8 + y1))) = 0) → AW Γ l mX12_endsClauses (d + 1) b 2 [vR 171, vI (y1 + 1), vI (g 172 (wr (8 + y1)))] [] (stt (upd2 g2 171 19 ((g2 171 19) - 1))) K))))))) : AW Γ l mX12_endsClauses (d + 1) b 2 [vR 171, vI y1, vU] [] (stt g) K := by
  refine aw_aload_n (k' := 0) (by decide +kernel) rfl ?_
  refine gfX12_282 rfl (by decide +kernel) (OB.at (ci := 10) (show shp 171 = (20, 0) by decide +kernel) (by decide)) ?_
  refine ax_if_le (off := 63) (tgt := 69) (x' := wr (g 171 19)) (by decide +kernel) (by decide) rfl (fun hc => ?_) (fun hc => ?_)
  · have hF := hF.1 hc
    exact aw_vret (by decide +kernel) rfl hF
  · have hF := hF.2 hc
    refine aw_aload_n (k' := 0) (by decide +kernel) rfl ?_
    refine gfX12_13 rfl (by decide +kernel) (OB.at (ci := 10) (show shp 171 = (20, 0) by decide +kernel) (by decide)) ?_
    refine AW.topR (show RC 171 1 = 172 by decide +kernel) ?_
    refine aw_bipush (n := 8) (by decide +kernel) (by decide +kernel) ?_
    refine aw_iload_n (k' := 1) (by decide +kernel) rfl ?_
    refine aw_iadd (by decide +kernel) ?_
    refine ax_iald (i := wr (8 + y1)) (by decide +kernel) (isA_lit (show shp 172 = (0, 2184) by decide +kernel) (by decide)) rfl hF.1 ?_
    replace hF := hF.2
    refine aw_istore_n (k' := 2) (by decide +kernel) (by decide) ?_
    show AW Γ l mX12_endsClauses (d + 1) b 19 [vR 171, vI y1, vI (g 172 (wr (8 + y1)))] [] (stt g) K
    refine aw_iload_n (k' := 2) (by decide +kernel) rfl ?_
    refine aw_iconst (n := 2) (by decide +kernel) ?_
    refine ax_icmp_ne (off := 21) (tgt := 42) (x' := wr (g 172 (wr (8 + y1)))) (y' := 2) (by decide +kernel) (by decide) rfl (by decide +kernel) (fun hc => ?_) (fun hc => ?_)
    · have hF := hF.1 hc
      refine aw_iload_n (k' := 2) (by decide +kernel) rfl ?_
      refine ax_if_ne (off := 16) (tgt := 59) (x' := wr (g 172 (wr (8 + y1)))) (by decide +kernel) (by decide) rfl (fun hc => ?_) (fun hc => ?_)
      · have hF := hF.1 hc
        refine aw_aload_n (k' := 0) (by decide +kernel) rfl ?_
        refine aw_callV (y := yX12_isLaid) (M2 := mX12_isLaid) (as := []) (S := []) (t := 171) (d2 := d) (b2 := 0) (b3 := b) cwX12_isLaid mlX12_294 imX12_isLaid seX12_isLaid (by decide +kernel) rfl (ci := 10) rfl (OB.at (ci := 10) (show shp 171 = (20, 0) by decide +kernel) (by decide)) (Nat.le_refl _) (Nat.le_of_eq (Nat.zero_add _)) rfl rfl (by simp [oneSlot]) (Nat.le_of_ble_eq_true rfl) (Ct.mono hF ?_)
        rintro o h' (⟨g1, rfl, rfl, hG⟩ | ⟨E, g, rfl, rfl, hG⟩)
        · show AW Γ l mX12_endsClauses (d + 1) b 63 [vR 171, vI y1, vI (g 172 (wr (8 + y1)))] [] (stt g1) K
          refine aw_iinc (i := 1) (n := 1) (by decide +kernel) rfl (by decide) ?_
          show AW Γ l mX12_endsClauses (d + 1) b 66 [vR 171, vI (y1 + 1), vI (g 172 (wr (8 + y1)))] [] (stt g1) K
          refine aw_goto (off := -64) (tgt := 2) (by decide +kernel) (by decide) ?_
          exact hG
        · exact hG
      · have hF := hF.2 hc
        refine aw_aload_n (k' := 0) (by decide +kernel) rfl ?_
        refine aw_dup (by decide +kernel) trivial ?_
        refine gfX12_282 rfl (by decide +kernel) (OB.at (ci := 10) (show shp 171 = (20, 0) by decide +kernel) (by decide)) ?_
        refine aw_iconst (n := 1) (by decide +kernel) ?_
        refine aw_isub (by decide +kernel) ?_
        refine pfX12_282 rfl (by decide +kernel) (OB.at (ci := 10) (show shp 171 = (20, 0) by decide +kernel) (by decide)) ?_
        show AW Γ l mX12_endsClauses (d + 1) b 56 [vR 171, vI y1, vI (g 172 (wr (8 + y1)))] [] (stt (upd2 g 171 19 ((g 171 19) - 1))) K
        refine aw_goto (off := 7) (tgt := 63) (by decide +kernel) (by decide) ?_
        refine aw_iinc (i := 1) (n := 1) (by decide +kernel) rfl (by decide) ?_
        show AW Γ l mX12_endsClauses (d + 1) b 66 [vR 171, vI (y1 + 1), vI (g 172 (wr (8 + y1)))] [] (stt (upd2 g 171 19 ((g 171 19) - 1))) K
        refine aw_goto (off := -64) (tgt := 2) (by decide +kernel) (by decide) ?_
        exact hF
    · have hF := hF.2 hc
      refine aw_aload_n (k' := 0) (by decide +kernel) rfl ?_
      refine gfX12_39 rfl (by decide +kernel) (OB.at (ci := 10) (show shp 171 = (20, 0) by decide +kernel) (by decide)) ?_
      refine AW.topR (show RC 171 18 = 179 by decide +kernel) ?_
      refine aw_bipush (n := 6) (by decide +kernel) (by decide +kernel) ?_
      refine aw_aload_n (k' := 0) (by decide +kernel) rfl ?_
      refine gfX12_282 rfl (by decide +kernel) (OB.at (ci := 10) (show shp 171 = (20, 0) by decide +kernel) (by decide)) ?_
      refine aw_imul (by decide +kernel) ?_
      refine aw_iconst (n := 5) (by decide +kernel) ?_
      refine aw_iadd (by decide +kernel) ?_
      refine aw_dup2 (by decide +kernel) trivial trivial ?_
      refine ax_iald (i := wr ((6 * (g 171 19)) + 5)) (by decide +kernel) (isA_lit (show shp 179 = (0, 30) by decide +kernel) (by decide)) rfl hF.1 ?_
      replace hF := hF.2
      refine aw_iconst (n := 1) (by decide +kernel) ?_
      refine aw_ixor (by decide +kernel) ?_
      refine ax_iast (i := wr ((6 * (g 171 19)) + 5)) (by decide +kernel) (isA_lit (show shp 179 = (0, 30) by decide +kernel) (by decide)) rfl hF.1 ?_
      show AW Γ l mX12_endsClauses (d + 1) b 42 [vR 171, vI y1, vI (g 172 (wr (8 + y1)))] [] (stt (upd2 g 179 (wr ((6 * (g 171 19)) + 5)) (iXor (g 179 (wr ((6 * (g 171 19)) + 5))) 1))) K
      replace hF := hF.2
      show AW Γ l mX12_endsClauses (d + 1) b 42 [vR 171, vI y1, vI (g 172 (wr (8 + y1)))] [] (stt (upd2 g 179 (wr ((6 * (g 171 19)) + 5)) (iXor (g 179 (wr ((6 * (g 171 19)) + 5))) 1))) K
      generalize eg2 : upd2 g 179 (wr ((6 * (g 171 19)) + 5)) (iXor (g 179 (wr ((6 * (g 171 19)) + 5))) 1) = g2
      replace hF := hF g2 eg2.symm
      refine aw_iload_n (k' := 2) (by decide +kernel) rfl ?_
      refine ax_if_ne (off := 16) (tgt := 59) (x' := wr (g 172 (wr (8 + y1)))) (by decide +kernel) (by decide) rfl (fun hc => ?_) (fun hc => ?_)
      · have hF := hF.1 hc
        refine aw_aload_n (k' := 0) (by decide +kernel) rfl ?_
        refine aw_callV (y := yX12_isLaid) (M2 := mX12_isLaid) (as := []) (S := []) (t := 171) (d2 := d) (b2 := 0) (b3 := b) cwX12_isLaid mlX12_294 imX12_isLaid seX12_isLaid (by decide +kernel) rfl (ci := 10) rfl (OB.at (ci := 10) (show shp 171 = (20, 0) by decide +kernel) (by decide)) (Nat.le_refl _) (Nat.le_of_eq (Nat.zero_add _)) rfl rfl (by simp [oneSlot]) (Nat.le_of_ble_eq_true rfl) (Ct.mono hF ?_)
        rintro o h' (⟨g3, rfl, rfl, hG⟩ | ⟨E, g, rfl, rfl, hG⟩)
        · show AW Γ l mX12_endsClauses (d + 1) b 63 [vR 171, vI y1, vI (g 172 (wr (8 + y1)))] [] (stt g3) K
          refine aw_iinc (i := 1) (n := 1) (by decide +kernel) rfl (by decide) ?_
          show AW Γ l mX12_endsClauses (d + 1) b 66 [vR 171, vI (y1 + 1), vI (g 172 (wr (8 + y1)))] [] (stt g3) K
          refine aw_goto (off := -64) (tgt := 2) (by decide +kernel) (by decide) ?_
          exact hG
        · exact hG
      · have hF := hF.2 hc
        refine aw_aload_n (k' := 0) (by decide +kernel) rfl ?_
        refine aw_dup (by decide +kernel) trivial ?_
        refine gfX12_282 rfl (by decide +kernel) (OB.at (ci := 10) (show shp 171 = (20, 0) by decide +kernel) (by decide)) ?_
        refine aw_iconst (n := 1) (by decide +kernel) ?_
        refine aw_isub (by decide +kernel) ?_
        refine pfX12_282 rfl (by decide +kernel) (OB.at (ci := 10) (show shp 171 = (20, 0) by decide +kernel) (by decide)) ?_
        show AW Γ l mX12_endsClauses (d + 1) b 56 [vR 171, vI y1, vI (g 172 (wr (8 + y1)))] [] (stt (upd2 g2 171 19 ((g2 171 19) - 1))) K
        refine aw_goto (off := 7) (tgt := 63) (by decide +kernel) (by decide) ?_
        refine aw_iinc (i := 1) (n := 1) (by decide +kernel) rfl (by decide) ?_
        show AW Γ l mX12_endsClauses (d + 1) b 66 [vR 171, vI (y1 + 1), vI (g 172 (wr (8 + y1)))] [] (stt (upd2 g2 171 19 ((g2 171 19) - 1))) K
        refine aw_goto (off := -64) (tgt := 2) (by decide +kernel) (by decide) ?_
        exact hF

set_option maxHeartbeats 1000000 in
theorem wpX12_inOrder {Γ : Cfg} {l : Launch} {d b : Nat} {g : GG} {K : Ou → HP → Prop}  (hF : AW Γ l mX12_inOrder d b 2 [vR 171, vI 0] [] (stt g) K) : Ct Γ l d b yX12_inOrder mX12_inOrder [vR 171] (stt g) K := by
  refine Ct.enter (L := [vR 171, vU]) rfl rfl rfl (by decide +kernel) (by simp [oneSlot]) (Nat.le_of_ble_eq_true rfl) rfl ?_
  refine aw_iconst (n := 0) (by decide +kernel) ?_
  refine aw_istore_n (k' := 1) (by decide +kernel) (by decide) ?_
  show AW Γ l mX12_inOrder d b 2 [vR 171, vI 0] [] (stt g) K
  exact hF
set_option maxHeartbeats 1000000 in
theorem wpX12_inOrder_2 {Γ : Cfg} {l : Launch} {d b : Nat} {g : GG} {K : Ou → HP → Prop} {y1 : Int} (hF : (12 ≤ wr y1 → K (.inl vU) (stt g)) ∧ (¬ (12 ≤ wr y1) → (0 ≤ wr y1 ∧ wr y1 < 12) ∧ (AW Γ l mX12_inOrder d b 2 [vR 171, vI (y1 + 1)] [] (stt (upd2 g 180 (wr y1) y1)) K))) : AW Γ l mX12_inOrder d b 2 [vR 171, vI y1] [] (stt g) K := by
  refine aw_iload_n (k' := 1) (by decide +kernel) rfl ?_
  refine aw_bipush (n := 12) (by decide +kernel) (by decide +kernel) ?_
  refine ax_icmp_ge (off := 16) (tgt := 21) (x' := wr y1) (y' := 12) (by decide +kernel) (by decide) rfl (by decide +kernel) (fun hc => ?_) (fun hc => ?_)
  · have hF := hF.1 hc
    exact aw_vret (by decide +kernel) rfl hF
  · have hF := hF.2 hc
    refine aw_aload_n (k' := 0) (by decide +kernel) rfl ?_
    refine gfX12_42 rfl (by decide +kernel) (OB.at (ci := 10) (show shp 171 = (20, 0) by decide +kernel) (by decide)) ?_
    refine AW.topR (show RC 171 22 = 180 by decide +kernel) ?_
    refine aw_iload_n (k' := 1) (by decide +kernel) rfl ?_
    refine aw_iload_n (k' := 1) (by decide +kernel) rfl ?_
    refine ax_iast (i := wr y1) (by decide +kernel) (isA_lit (show shp 180 = (0, 12) by decide +kernel) (by decide)) rfl hF.1 ?_
    show AW Γ l mX12_inOrder d b 15 [vR 171, vI y1] [] (stt (upd2 g 180 (wr y1) y1)) K
    replace hF := hF.2
    refine aw_iinc (i := 1) (n := 1) (by decide +kernel) rfl (by decide) ?_
    show AW Γ l mX12_inOrder d b 18 [vR 171, vI (y1 + 1)] [] (stt (upd2 g 180 (wr y1) y1)) K
    refine aw_goto (off := -16) (tgt := 2) (by decide +kernel) (by decide) ?_
    exact hF

set_option maxHeartbeats 1000000 in
theorem wpX12_reads {Γ : Cfg} {l : Launch} {d b : Nat} {g : GG} {K : Ou → HP → Prop} {x1 : Int} {x2 : Int} (hF : Ct Γ l (d + 2) 0 yX12_begins mX12_begins [vR 171, vI 0] (stt (upd2 (upd2 g 171 20 x1) 171 21 x2)) (bV (fun g1 => AW Γ l mX12_reads (d + 3) b 17 [vR 171, vI x1, vI x2, vI 0] [] (stt g1) K) K)) : Ct Γ l (d + 3) b yX12_reads mX12_reads [vR 171, vI x1, vI x2] (stt g) K := by
  refine Ct.enter (L := [vR 171, vI x1, vI x2, vU]) rfl rfl rfl (by decide +kernel) (by simp [oneSlot]) (Nat.le_of_ble_eq_true rfl) rfl ?_
  refine aw_aload_n (k' := 0) (by decide +kernel) rfl ?_
  refine aw_iload_n (k' := 1) (by decide +kernel) rfl ?_
  refine pfX12_297 rfl (by decide +kernel) (OB.at (ci := 10) (show shp 171 = (20, 0) by decide +kernel) (by decide)) ?_
  show AW Γ l mX12_reads (d + 3) b 5 [vR 171, vI x1, vI x2, vU] [] (stt (upd2 g 171 20 x1)) K
  refine aw_aload_n (k' := 0) (by decide +kernel) rfl ?_
  refine aw_iload_n (k' := 2) (by decide +kernel) rfl ?_
  refine pfX12_300 rfl (by decide +kernel) (OB.at (ci := 10) (show shp 171 = (20, 0) by decide +kernel) (by decide)) ?_
  show AW Γ l mX12_reads (d + 3) b 10 [vR 171, vI x1, vI x2, vU] [] (stt (upd2 (upd2 g 171 20 x1) 171 21 x2)) K
  refine aw_aload_n (k' := 0) (by decide +kernel) rfl ?_
  refine aw_iconst (n := 0) (by decide +kernel) ?_
  refine aw_callV (y := yX12_begins) (M2 := mX12_begins) (as := [vI 0]) (S := []) (t := 171) (d2 := (d + 2)) (b2 := 0) (b3 := b) cwX12_begins mlX12_290 imX12_begins seX12_begins (by decide +kernel) rfl (ci := 10) rfl (OB.at (ci := 10) (show shp 171 = (20, 0) by decide +kernel) (by decide)) (Nat.le_refl _) (Nat.le_of_eq (Nat.zero_add _)) rfl rfl (by simp [oneSlot]) (Nat.le_of_ble_eq_true rfl) (Ct.mono hF ?_)
  rintro o h' (⟨g1, rfl, rfl, hG⟩ | ⟨E, g, rfl, rfl, hG⟩)
  · show AW Γ l mX12_reads (d + 3) b 15 [vR 171, vI x1, vI x2, vU] [] (stt g1) K
    refine aw_iconst (n := 0) (by decide +kernel) ?_
    refine aw_istore_n (k' := 3) (by decide +kernel) (by decide) ?_
    show AW Γ l mX12_reads (d + 3) b 17 [vR 171, vI x1, vI x2, vI 0] [] (stt g1) K
    exact hG
  · exact hG
set_option maxHeartbeats 1000000 in
theorem wpX12_reads_17 {Γ : Cfg} {l : Launch} {d b : Nat} {g : GG} {K : Ou → HP → Prop} {x1 : Int} {x2 : Int} {y3 : Int} (hF : (wr x2 ≤ wr y3 → Ct Γ l (d + 2) 0 yX12_endsClauses mX12_endsClauses [vR 171] (stt g) (bV (fun g1 => K (.inl vU) (stt g1)) K)) ∧ (¬ (wr x2 ≤ wr y3) → (0 ≤ wr y3 ∧ wr y3 < 12) ∧ ((okP x1 (5 + 2 * (g 180 (wr y3)))) ∧ ((0 ≤ wr y3 ∧ wr y3 < 12) ∧ ((okP x1 (5 + 2 * (g 180 (wr y3)) + 1)) ∧ (Ct Γ l (d + 2) 0 yX12_comes mX12_comes [vR 171, vI (ofP g x1 (5 + 2 * (g 180 (wr y3)))), vI (ofP g x1 (5 + 2 * (g 180 (wr y3)) + 1))] (stt g) (bV (fun g2 => AW Γ l mX12_reads (d + 3) b 17 [vR 171, vI x1, vI x2, vI (y3 + 1)] [] (stt g2) K) K))))))) : AW Γ l mX12_reads (d + 3) b 17 [vR 171, vI x1, vI x2, vI y3] [] (stt g) K := by
  refine aw_iload_n (k' := 3) (by decide +kernel) rfl ?_
  refine aw_iload_n (k' := 2) (by decide +kernel) rfl ?_
  refine ax_icmp_ge (off := 35) (tgt := 54) (x' := wr y3) (y' := wr x2) (by decide +kernel) (by decide) rfl rfl (fun hc => ?_) (fun hc => ?_)
  · have hF := hF.1 hc
    refine aw_aload_n (k' := 0) (by decide +kernel) rfl ?_
    refine aw_callV (y := yX12_endsClauses) (M2 := mX12_endsClauses) (as := []) (S := []) (t := 171) (d2 := (d + 2)) (b2 := 0) (b3 := b) cwX12_endsClauses mlX12_312 imX12_endsClauses seX12_endsClauses (by decide +kernel) rfl (ci := 10) rfl (OB.at (ci := 10) (show shp 171 = (20, 0) by decide +kernel) (by decide)) (Nat.le_refl _) (Nat.le_of_eq (Nat.zero_add _)) rfl rfl (by simp [oneSlot]) (Nat.le_of_ble_eq_true rfl) (Ct.mono hF ?_)
    rintro o h' (⟨g1, rfl, rfl, hG⟩ | ⟨E, g, rfl, rfl, hG⟩)
    · show AW Γ l mX12_reads (d + 3) b 58 [vR 171, vI x1, vI x2, vI y3] [] (stt g1) K
      exact aw_vret (by decide +kernel) rfl hG
    · exact hG
  · have hF := hF.2 hc
    refine aw_aload_n (k' := 0) (by decide +kernel) rfl ?_
    refine aw_aload_n (k' := 0) (by decide +kernel) rfl ?_
    refine aw_iload_n (k' := 1) (by decide +kernel) rfl ?_
    refine aw_aload_n (k' := 0) (by decide +kernel) rfl ?_
    refine gfX12_42 rfl (by decide +kernel) (OB.at (ci := 10) (show shp 171 = (20, 0) by decide +kernel) (by decide)) ?_
    refine AW.topR (show RC 171 22 = 180 by decide +kernel) ?_
    refine aw_iload_n (k' := 3) (by decide +kernel) rfl ?_
    refine ax_iald (i := wr y3) (by decide +kernel) (isA_lit (show shp 180 = (0, 12) by decide +kernel) (by decide)) rfl hF.1 ?_
    replace hF := hF.2
    refine aw_callV (y := yX12_kindOf) (M2 := mX12_kindOf) (as := [vI x1, vI (g 180 (wr y3))]) (S := [vR 171]) (t := 171) (d2 := (d + 2)) (b2 := 0) (b3 := b) cwX12_kindOf mlX12_303 imX12_kindOf seX12_kindOf (by decide +kernel) rfl (ci := 10) rfl (OB.at (ci := 10) (show shp 171 = (20, 0) by decide +kernel) (by decide)) (Nat.le_refl _) (Nat.le_of_eq (Nat.zero_add _)) rfl rfl (by simp [oneSlot]) (Nat.le_of_ble_eq_true rfl) (c_kindOf hF.1 ?_)
    show AW Γ l mX12_reads (d + 3) b 34 [vR 171, vI x1, vI x2, vI y3] [vI (ofP g x1 (5 + 2 * (g 180 (wr y3)))), vR 171] (stt g) K
    replace hF := hF.2
    refine aw_aload_n (k' := 0) (by decide +kernel) rfl ?_
    refine aw_iload_n (k' := 1) (by decide +kernel) rfl ?_
    refine aw_aload_n (k' := 0) (by decide +kernel) rfl ?_
    refine gfX12_42 rfl (by decide +kernel) (OB.at (ci := 10) (show shp 171 = (20, 0) by decide +kernel) (by decide)) ?_
    refine AW.topR (show RC 171 22 = 180 by decide +kernel) ?_
    refine aw_iload_n (k' := 3) (by decide +kernel) rfl ?_
    refine ax_iald (i := wr y3) (by decide +kernel) (isA_lit (show shp 180 = (0, 12) by decide +kernel) (by decide)) rfl hF.1 ?_
    replace hF := hF.2
    refine aw_callV (y := yX12_numberOf) (M2 := mX12_numberOf) (as := [vI x1, vI (g 180 (wr y3))]) (S := [vI (ofP g x1 (5 + 2 * (g 180 (wr y3)))), vR 171]) (t := 171) (d2 := (d + 2)) (b2 := 0) (b3 := b) cwX12_numberOf mlX12_306 imX12_numberOf seX12_numberOf (by decide +kernel) rfl (ci := 10) rfl (OB.at (ci := 10) (show shp 171 = (20, 0) by decide +kernel) (by decide)) (Nat.le_refl _) (Nat.le_of_eq (Nat.zero_add _)) rfl rfl (by simp [oneSlot]) (Nat.le_of_ble_eq_true rfl) (c_numberOf hF.1 ?_)
    show AW Γ l mX12_reads (d + 3) b 45 [vR 171, vI x1, vI x2, vI y3] [vI (ofP g x1 (5 + 2 * (g 180 (wr y3)) + 1)), vI (ofP g x1 (5 + 2 * (g 180 (wr y3)))), vR 171] (stt g) K
    replace hF := hF.2
    refine aw_callV (y := yX12_comes) (M2 := mX12_comes) (as := [vI (ofP g x1 (5 + 2 * (g 180 (wr y3)))), vI (ofP g x1 (5 + 2 * (g 180 (wr y3)) + 1))]) (S := []) (t := 171) (d2 := (d + 2)) (b2 := 0) (b3 := b) cwX12_comes mlX12_309 imX12_comes seX12_comes (by decide +kernel) rfl (ci := 10) rfl (OB.at (ci := 10) (show shp 171 = (20, 0) by decide +kernel) (by decide)) (Nat.le_refl _) (Nat.le_of_eq (Nat.zero_add _)) rfl rfl (by simp [oneSlot]) (Nat.le_of_ble_eq_true rfl) (Ct.mono hF ?_)
    rintro o h' (⟨g2, rfl, rfl, hG⟩ | ⟨E, g, rfl, rfl, hG⟩)
    · show AW Γ l mX12_reads (d + 3) b 48 [vR 171, vI x1, vI x2, vI y3] [] (stt g2) K
      refine aw_iinc (i := 3) (n := 1) (by decide +kernel) rfl (by decide) ?_
      show AW Γ l mX12_reads (d + 3) b 51 [vR 171, vI x1, vI x2, vI (y3 + 1)] [] (stt g2) K
      refine aw_goto (off := -34) (tgt := 17) (by decide +kernel) (by decide) ?_
      exact hG
    · exact hG

set_option maxHeartbeats 1000000 in
theorem wpX12_factOf {Γ : Cfg} {l : Launch} {d b : Nat} {g : GG} {K : Ou → HP → Prop} {x1 : Int} {x2 : Int} (hF : (wr x1 = 0 → K (.inl (vI (g 171 20))) (stt g)) ∧ (wr x1 = 1 → K (.inl (vI (g 179 0))) (stt g)) ∧ (wr x1 = 2 → K (.inl (vI (g 179 1))) (stt g)) ∧ (wr x1 = 3 → K (.inl (vI (iBC (g 179 2)))) (stt g)) ∧ (wr x1 = 4 → K (.inl (vI (g 179 3))) (stt g)) ∧ (wr x1 = 5 → K (.inl (vI (iBC (g 179 4)))) (stt g)) ∧ (wr x1 = 6 → K (.inl (vI (g 171 21))) (stt g)) ∧ (wr x1 = 7 → (okP (g 171 20) 0) ∧ ((¬ wr (g 171 21) = wr (ofP g (g 171 20) 0) → K (.inl (vI 0)) (stt g)) ∧ (¬ (¬ wr (g 171 21) = wr (ofP g (g 171 20) 0)) → K (.inl (vI 1)) (stt g)))) ∧ (wr x1 = 8 → K (.inl (vI (g 179 5))) (stt g)) ∧ (wr x1 = 9 → (¬ wr (g 179 0) = 0 → K (.inl (vI 0)) (stt g)) ∧ (¬ (¬ wr (g 179 0) = 0) → K (.inl (vI 1)) (stt g))) ∧ ((wr x1 < 0 ∨ 9 < wr x1) → K (.inl (vI x2)) (stt g))) : Ct Γ l (d + 2) b yX12_factOf mX12_factOf [vR 171, vI x1, vI x2] (stt g) K := by
  refine Ct.enter (L := [vR 171, vI x1, vI x2]) rfl rfl rfl (by decide +kernel) (by simp [oneSlot]) (Nat.le_of_ble_eq_true rfl) rfl ?_
  refine aw_iload_n (k' := 1) (by decide +kernel) rfl ?_
  refine ax_tsw (dflt := 150) (lo := 0) (hi := 9) (offs := #[55, 60, 67, 74, 84, 91, 101, 106, 128, 135]) (len := 55) [56, 61, 68, 75, 85, 92, 102, 107, 129, 136] 151 (by decide +kernel) (by decide) (by decide) (by decide) (by decide) (fun i hi hc => ?_) (fun hc => ?_)
  · match i, hi, hc with
    | 0, _, hc =>
      have hF := hF.1 (by simpa using hc)
      show AW Γ l mX12_factOf (d + 2) b 56 [vR 171, vI x1, vI x2] [] (stt g) K
      refine aw_aload_n (k' := 0) (by decide +kernel) rfl ?_
      refine gfX12_297 rfl (by decide +kernel) (OB.at (ci := 10) (show shp 171 = (20, 0) by decide +kernel) (by decide)) ?_
      exact aw_iret (by decide +kernel) rfl hF
    | 1, _, hc =>
      have hF := hF.2.1 (by simpa using hc)
      show AW Γ l mX12_factOf (d + 2) b 61 [vR 171, vI x1, vI x2] [] (stt g) K
      refine aw_aload_n (k' := 0) (by decide +kernel) rfl ?_
      refine gfX12_39 rfl (by decide +kernel) (OB.at (ci := 10) (show shp 171 = (20, 0) by decide +kernel) (by decide)) ?_
      refine AW.topR (show RC 171 18 = 179 by decide +kernel) ?_
      refine aw_iconst (n := 0) (by decide +kernel) ?_
      refine ax_iald (i := 0) (by decide +kernel) (isA_lit (show shp 179 = (0, 30) by decide +kernel) (by decide)) (by decide +kernel) ⟨by decide, by decide⟩ ?_
      exact aw_iret (by decide +kernel) rfl hF
    | 2, _, hc =>
      have hF := hF.2.2.1 (by simpa using hc)
      show AW Γ l mX12_factOf (d + 2) b 68 [vR 171, vI x1, vI x2] [] (stt g) K
      refine aw_aload_n (k' := 0) (by decide +kernel) rfl ?_
      refine gfX12_39 rfl (by decide +kernel) (OB.at (ci := 10) (show shp 171 = (20, 0) by decide +kernel) (by decide)) ?_
      refine AW.topR (show RC 171 18 = 179 by decide +kernel) ?_
      refine aw_iconst (n := 1) (by decide +kernel) ?_
      refine ax_iald (i := 1) (by decide +kernel) (isA_lit (show shp 179 = (0, 30) by decide +kernel) (by decide)) (by decide +kernel) ⟨by decide, by decide⟩ ?_
      exact aw_iret (by decide +kernel) rfl hF
    | 3, _, hc =>
      have hF := hF.2.2.2.1 (by simpa using hc)
      show AW Γ l mX12_factOf (d + 2) b 75 [vR 171, vI x1, vI x2] [] (stt g) K
      refine aw_aload_n (k' := 0) (by decide +kernel) rfl ?_
      refine gfX12_39 rfl (by decide +kernel) (OB.at (ci := 10) (show shp 171 = (20, 0) by decide +kernel) (by decide)) ?_
      refine AW.topR (show RC 171 18 = 179 by decide +kernel) ?_
      refine aw_iconst (n := 2) (by decide +kernel) ?_
      refine ax_iald (i := 2) (by decide +kernel) (isA_lit (show shp 179 = (0, 30) by decide +kernel) (by decide)) (by decide +kernel) ⟨by decide, by decide⟩ ?_
      refine aw_callS (y := yJ6_bitCount_0f7a4) (M2 := mJ6_bitCount_0f7a4) (as := [vI (g 179 2)]) (S := []) (d2 := (d + 1)) (b2 := 0) (b3 := b) cwJ6_bitCount_0f7a4 mlX12_315 stJ6_bitCount_0f7a4 (by decide +kernel) rfl (Nat.le_refl _) (Nat.le_of_eq (Nat.zero_add _)) rfl rfl (by simp [oneSlot]) (Nat.le_of_ble_eq_true rfl) (c_bitCount ?_)
      show AW Γ l mX12_factOf (d + 2) b 84 [vR 171, vI x1, vI x2] [vI (iBC (g 179 2))] (stt g) K
      exact aw_iret (by decide +kernel) rfl hF
    | 4, _, hc =>
      have hF := hF.2.2.2.2.1 (by simpa using hc)
      show AW Γ l mX12_factOf (d + 2) b 85 [vR 171, vI x1, vI x2] [] (stt g) K
      refine aw_aload_n (k' := 0) (by decide +kernel) rfl ?_
      refine gfX12_39 rfl (by decide +kernel) (OB.at (ci := 10) (show shp 171 = (20, 0) by decide +kernel) (by decide)) ?_
      refine AW.topR (show RC 171 18 = 179 by decide +kernel) ?_
      refine aw_iconst (n := 3) (by decide +kernel) ?_
      refine ax_iald (i := 3) (by decide +kernel) (isA_lit (show shp 179 = (0, 30) by decide +kernel) (by decide)) (by decide +kernel) ⟨by decide, by decide⟩ ?_
      exact aw_iret (by decide +kernel) rfl hF
    | 5, _, hc =>
      have hF := hF.2.2.2.2.2.1 (by simpa using hc)
      show AW Γ l mX12_factOf (d + 2) b 92 [vR 171, vI x1, vI x2] [] (stt g) K
      refine aw_aload_n (k' := 0) (by decide +kernel) rfl ?_
      refine gfX12_39 rfl (by decide +kernel) (OB.at (ci := 10) (show shp 171 = (20, 0) by decide +kernel) (by decide)) ?_
      refine AW.topR (show RC 171 18 = 179 by decide +kernel) ?_
      refine aw_iconst (n := 4) (by decide +kernel) ?_
      refine ax_iald (i := 4) (by decide +kernel) (isA_lit (show shp 179 = (0, 30) by decide +kernel) (by decide)) (by decide +kernel) ⟨by decide, by decide⟩ ?_
      refine aw_callS (y := yJ6_bitCount_0f7a4) (M2 := mJ6_bitCount_0f7a4) (as := [vI (g 179 4)]) (S := []) (d2 := (d + 1)) (b2 := 0) (b3 := b) cwJ6_bitCount_0f7a4 mlX12_315 stJ6_bitCount_0f7a4 (by decide +kernel) rfl (Nat.le_refl _) (Nat.le_of_eq (Nat.zero_add _)) rfl rfl (by simp [oneSlot]) (Nat.le_of_ble_eq_true rfl) (c_bitCount ?_)
      show AW Γ l mX12_factOf (d + 2) b 101 [vR 171, vI x1, vI x2] [vI (iBC (g 179 4))] (stt g) K
      exact aw_iret (by decide +kernel) rfl hF
    | 6, _, hc =>
      have hF := hF.2.2.2.2.2.2.1 (by simpa using hc)
      show AW Γ l mX12_factOf (d + 2) b 102 [vR 171, vI x1, vI x2] [] (stt g) K
      refine aw_aload_n (k' := 0) (by decide +kernel) rfl ?_
      refine gfX12_300 rfl (by decide +kernel) (OB.at (ci := 10) (show shp 171 = (20, 0) by decide +kernel) (by decide)) ?_
      exact aw_iret (by decide +kernel) rfl hF
    | 7, _, hc =>
      have hF := hF.2.2.2.2.2.2.2.1 (by simpa using hc)
      show AW Γ l mX12_factOf (d + 2) b 107 [vR 171, vI x1, vI x2] [] (stt g) K
      refine aw_aload_n (k' := 0) (by decide +kernel) rfl ?_
      refine gfX12_300 rfl (by decide +kernel) (OB.at (ci := 10) (show shp 171 = (20, 0) by decide +kernel) (by decide)) ?_
      refine aw_aload_n (k' := 0) (by decide +kernel) rfl ?_
      refine aw_aload_n (k' := 0) (by decide +kernel) rfl ?_
      refine gfX12_297 rfl (by decide +kernel) (OB.at (ci := 10) (show shp 171 = (20, 0) by decide +kernel) (by decide)) ?_
      refine aw_iconst (n := 0) (by decide +kernel) ?_
      refine aw_callV (y := yX12_of) (M2 := mX12_of) (as := [vI (g 171 20), vI 0]) (S := [vI (g 171 21)]) (t := 171) (d2 := (d + 1)) (b2 := 0) (b3 := b) cwX12_of mlX12_84 imX12_of seX12_of (by decide +kernel) rfl (ci := 10) rfl (OB.at (ci := 10) (show shp 171 = (20, 0) by decide +kernel) (by decide)) (Nat.le_refl _) (Nat.le_of_eq (Nat.zero_add _)) rfl rfl (by simp [oneSlot]) (Nat.le_of_ble_eq_true rfl) (c_of hF.1 ?_)
      show AW Γ l mX12_factOf (d + 2) b 120 [vR 171, vI x1, vI x2] [vI (ofP g (g 171 20) 0), vI (g 171 21)] (stt g) K
      replace hF := hF.2
      refine ax_icmp_ne (off := 7) (tgt := 127) (x' := wr (g 171 21)) (y' := wr (ofP g (g 171 20) 0)) (by decide +kernel) (by decide) rfl rfl (fun hc => ?_) (fun hc => ?_)
      · have hF := hF.1 hc
        refine aw_iconst (n := 0) (by decide +kernel) ?_
        exact aw_iret (by decide +kernel) rfl hF
      · have hF := hF.2 hc
        refine aw_iconst (n := 1) (by decide +kernel) ?_
        refine aw_goto (off := 4) (tgt := 128) (by decide +kernel) (by decide) ?_
        exact aw_iret (by decide +kernel) rfl hF
    | 8, _, hc =>
      have hF := hF.2.2.2.2.2.2.2.2.1 (by simpa using hc)
      show AW Γ l mX12_factOf (d + 2) b 129 [vR 171, vI x1, vI x2] [] (stt g) K
      refine aw_aload_n (k' := 0) (by decide +kernel) rfl ?_
      refine gfX12_39 rfl (by decide +kernel) (OB.at (ci := 10) (show shp 171 = (20, 0) by decide +kernel) (by decide)) ?_
      refine AW.topR (show RC 171 18 = 179 by decide +kernel) ?_
      refine aw_iconst (n := 5) (by decide +kernel) ?_
      refine ax_iald (i := 5) (by decide +kernel) (isA_lit (show shp 179 = (0, 30) by decide +kernel) (by decide)) (by decide +kernel) ⟨by decide, by decide⟩ ?_
      exact aw_iret (by decide +kernel) rfl hF
    | 9, _, hc =>
      have hF := hF.2.2.2.2.2.2.2.2.2.1 (by simpa using hc)
      show AW Γ l mX12_factOf (d + 2) b 136 [vR 171, vI x1, vI x2] [] (stt g) K
      refine aw_aload_n (k' := 0) (by decide +kernel) rfl ?_
      refine gfX12_39 rfl (by decide +kernel) (OB.at (ci := 10) (show shp 171 = (20, 0) by decide +kernel) (by decide)) ?_
      refine AW.topR (show RC 171 18 = 179 by decide +kernel) ?_
      refine aw_iconst (n := 0) (by decide +kernel) ?_
      refine ax_iald (i := 0) (by decide +kernel) (isA_lit (show shp 179 = (0, 30) by decide +kernel) (by decide)) (by decide +kernel) ⟨by decide, by decide⟩ ?_
      refine ax_if_ne (off := 7) (tgt := 149) (x' := wr (g 179 0)) (by decide +kernel) (by decide) rfl (fun hc => ?_) (fun hc => ?_)
      · have hF := hF.1 hc
        refine aw_iconst (n := 0) (by decide +kernel) ?_
        exact aw_iret (by decide +kernel) rfl hF
      · have hF := hF.2 hc
        refine aw_iconst (n := 1) (by decide +kernel) ?_
        refine aw_goto (off := 4) (tgt := 150) (by decide +kernel) (by decide) ?_
        exact aw_iret (by decide +kernel) rfl hF
    | i + 10, hi, _ => exact absurd hi (by simp)
  · have hF := hF.2.2.2.2.2.2.2.2.2.2 hc
    refine aw_iload_n (k' := 2) (by decide +kernel) rfl ?_
    exact aw_iret (by decide +kernel) rfl hF

set_option maxHeartbeats 1000000 in
theorem wpX12_holdsLine {Γ : Cfg} {l : Launch} {d b : Nat} {g : GG} {K : Ou → HP → Prop} {x1 : Int} (hF : (0 ≤ wr ((487 + (4 * x1)) + 2) ∧ wr ((487 + (4 * x1)) + 2) < 2184) ∧ (AW Γ l mX12_holdsLine (d + 1) b 20 [vR 171, vI x1, vI 0, vI (487 + (4 * x1)), vI (g 172 (wr ((487 + (4 * x1)) + 2))), vU, vU, vU, vU] [] (stt g) K)) : Ct Γ l (d + 1) b yX12_holdsLine mX12_holdsLine [vR 171, vI x1] (stt g) K := by
  refine Ct.enter (L := [vR 171, vI x1, vU, vU, vU, vU, vU, vU, vU]) rfl rfl rfl (by decide +kernel) (by simp [oneSlot]) (Nat.le_of_ble_eq_true rfl) rfl ?_
  refine aw_iconst (n := 0) (by decide +kernel) ?_
  refine aw_istore_n (k' := 2) (by decide +kernel) (by decide) ?_
  show AW Γ l mX12_holdsLine (d + 1) b 2 [vR 171, vI x1, vI 0, vU, vU, vU, vU, vU, vU] [] (stt g) K
  refine aw_sipush (n := 487) (by decide +kernel) (by decide +kernel) ?_
  refine aw_iconst (n := 4) (by decide +kernel) ?_
  refine aw_iload_n (k' := 1) (by decide +kernel) rfl ?_
  refine aw_imul (by decide +kernel) ?_
  refine aw_iadd (by decide +kernel) ?_
  refine aw_istore_n (k' := 3) (by decide +kernel) (by decide) ?_
  show AW Γ l mX12_holdsLine (d + 1) b 10 [vR 171, vI x1, vI 0, vI (487 + (4 * x1)), vU, vU, vU, vU, vU] [] (stt g) K
  refine aw_aload_n (k' := 0) (by decide +kernel) rfl ?_
  refine gfX12_13 rfl (by decide +kernel) (OB.at (ci := 10) (show shp 171 = (20, 0) by decide +kernel) (by decide)) ?_
  refine AW.topR (show RC 171 1 = 172 by decide +kernel) ?_
  refine aw_iload_n (k' := 3) (by decide +kernel) rfl ?_
  refine aw_iconst (n := 2) (by decide +kernel) ?_
  refine aw_iadd (by decide +kernel) ?_
  refine ax_iald (i := wr ((487 + (4 * x1)) + 2)) (by decide +kernel) (isA_lit (show shp 172 = (0, 2184) by decide +kernel) (by decide)) rfl hF.1 ?_
  replace hF := hF.2
  refine aw_istore (i := 4) (by decide +kernel) (by decide) ?_
  show AW Γ l mX12_holdsLine (d + 1) b 20 [vR 171, vI x1, vI 0, vI (487 + (4 * x1)), vI (g 172 (wr ((487 + (4 * x1)) + 2))), vU, vU, vU, vU] [] (stt g) K
  exact hF
set_option maxHeartbeats 1000000 in
theorem wpX12_holdsLine_20 {Γ : Cfg} {l : Launch} {d b : Nat} {g : GG} {K : Ou → HP → Prop} {x1 : Int} {y2 : Int} {y3 : Int} {y4 : Int} (hF : (0 ≤ wr (y3 + 3) ∧ wr (y3 + 3) < 2184) ∧ ((wr (g 172 (wr (y3 + 3))) ≤ wr y4 → (wr y2 = 0 → K (.inl (vI 1)) (stt g)) ∧ (¬ (wr y2 = 0) → (¬ wr (g 181 0) = 1 → K (.inl (vI 0)) (stt g)) ∧ (¬ (¬ wr (g 181 0) = 1) → K (.inl (vI 1)) (stt g)))) ∧ (¬ (wr (g 172 (wr (y3 + 3))) ≤ wr y4) → (0 ≤ wr (535 + (2 * y4)) ∧ wr (535 + (2 * y4)) < 2184) ∧ ((10 < wr (g 172 (wr (535 + (2 * y4)))) → (¬ wr (g 172 (wr (535 + (2 * y4)))) = 14 → (0 ≤ wr ((y2 + (-1)) - 1) ∧ wr ((y2 + (-1)) - 1) < 400) ∧ ((0 ≤ wr (y2 + (-1)) ∧ wr (y2 + (-1)) < 400) ∧ ((¬ wr (g 172 (wr (535 + (2 * y4)))) = 12 → (¬ wr (g 172 (wr (535 + (2 * y4)))) = 13 → (¬ wr (g 172 (wr (535 + (2 * y4)))) = 15 → (wr ((g 181 (wr ((y2 + (-1)) - 1))) + (g 181 (wr (y2 + (-1))))) ≤ 0 → AW Γ l mX12_holdsLine (d + 1) b 218 [vR 171, vI x1, vI (y2 + (-1)), vI y3, vI y4, vI (g 172 (wr (535 + (2 * y4)))), vI (g 181 (wr ((y2 + (-1)) - 1))), vI (g 181 (wr (y2 + (-1)))), vU] [vI 0] (stt g) K) ∧ (¬ (wr ((g 181 (wr ((y2 + (-1)) - 1))) + (g 181 (wr (y2 + (-1))))) ≤ 0) → AW Γ l mX12_holdsLine (d + 1) b 218 [vR 171, vI x1, vI (y2 + (-1)), vI y3, vI y4, vI (g 172 (wr (535 + (2 * y4)))), vI (g 181 (wr ((y2 + (-1)) - 1))), vI (g 181 (wr (y2 + (-1)))), vU] [vI 1] (stt g) K)) ∧ (¬ (¬ wr (g 172 (wr (535 + (2 * y4)))) = 15) → (¬ wr ((g 181 (wr ((y2 + (-1)) - 1))) + (g 181 (wr (y2 + (-1))))) = 2 → AW Γ l mX12_holdsLine (d + 1) b 218 [vR 171, vI x1, vI (y2 + (-1)), vI y3, vI y4, vI (g 172 (wr (535 + (2 * y4)))), vI (g 181 (wr ((y2 + (-1)) - 1))), vI (g 181 (wr (y2 + (-1)))), vU] [vI 0] (stt g) K) ∧ (¬ (¬ wr ((g 181 (wr ((y2 + (-1)) - 1))) + (g 181 (wr (y2 + (-1))))) = 2) → AW Γ l mX12_holdsLine (d + 1) b 218 [vR 171, vI x1, vI (y2 + (-1)), vI y3, vI y4, vI (g 172 (wr (535 + (2 * y4)))), vI (g 181 (wr ((y2 + (-1)) - 1))), vI (g 181 (wr (y2 + (-1)))), vU] [vI 1] (stt g) K))) ∧ (¬ (¬ wr (g 172 (wr (535 + (2 * y4)))) = 13) → (wr (g 181 (wr ((y2 + (-1)) - 1))) ≤ wr (g 181 (wr (y2 + (-1)))) → AW Γ l mX12_holdsLine (d + 1) b 218 [vR 171, vI x1, vI (y2 + (-1)), vI y3, vI y4, vI (g 172 (wr (535 + (2 * y4)))), vI (g 181 (wr ((y2 + (-1)) - 1))), vI (g 181 (wr (y2 + (-1)))), vU] [vI 0] (stt g) K) ∧ (¬ (wr (g 181 (wr ((y2 + (-1)) - 1))) ≤ wr (g 181 (wr (y2 + (-1))))) → AW Γ l mX12_holdsLine (d + 1) b 218 [vR 171, vI x1, vI (y2 + (-1)), vI y3, vI y4, vI (g 172 (wr (535 + (2 * y4)))), vI (g 181 (wr ((y2 + (-1)) - 1))), vI (g 181 (wr (y2 + (-1)))), vU] [vI 1] (stt g) K))) ∧ (¬ (¬ wr (g 172 (wr (535 + (2 * y4)))) = 12) → (wr (g 181 (wr (y2 + (-1)))) ≤ wr (g 181 (wr ((y2 + (-1)) - 1))) → AW Γ l mX12_holdsLine (d + 1) b 218 [vR 171, vI x1, vI (y2 + (-1)), vI y3, vI y4, vI (g 172 (wr (535 + (2 * y4)))), vI (g 181 (wr ((y2 + (-1)) - 1))), vI (g 181 (wr (y2 + (-1)))), vU] [vI 0] (stt g) K) ∧ (¬ (wr (g 181 (wr (y2 + (-1)))) ≤ wr (g 181 (wr ((y2 + (-1)) - 1)))) → AW Γ l mX12_holdsLine (d + 1) b 218 [vR 171, vI x1, vI (y2 + (-1)), vI y3, vI y4, vI (g 172 (wr (535 + (2 * y4)))), vI (g 181 (wr ((y2 + (-1)) - 1))), vI (g 181 (wr (y2 + (-1)))), vU] [vI 1] (stt g) K))))) ∧ (¬ (¬ wr (g 172 (wr (535 + (2 * y4)))) = 14) → (0 ≤ wr (y2 - 1) ∧ wr (y2 - 1) < 400) ∧ ((0 ≤ wr (y2 - 1) ∧ wr (y2 - 1) < 400) ∧ (∀ g1 : GG, g1 = upd2 g 181 (wr (y2 - 1)) (1 - (g 181 (wr (y2 - 1)))) → AW Γ l mX12_holdsLine (d + 1) b 20 [vR 171, vI x1, vI y2, vI y3, vI (y4 + 1), vI (g 172 (wr (535 + (2 * y4)))), vU, vU, vU] [] (stt g1) K)))) ∧ (¬ (10 < wr (g 172 (wr (535 + (2 * y4))))) → (0 ≤ wr ((535 + (2 * y4)) + 1) ∧ wr ((535 + (2 * y4)) + 1) < 2184) ∧ (Ct Γ l d 0 yX12_factOf mX12_factOf [vR 171, vI (g 172 (wr (535 + (2 * y4)))), vI (g 172 (wr ((535 + (2 * y4)) + 1)))] (stt g) (bI (fun v1 g2 => (0 ≤ wr y2 ∧ wr y2 < 400) ∧ (AW Γ l mX12_holdsLine (d + 1) b 20 [vR 171, vI x1, vI (y2 + 1), vI y3, vI (y4 + 1), vI (g 172 (wr (535 + (2 * y4)))), vU, vU, vU] [] (stt (upd2 g2 181 (wr y2) v1)) K)) K))))))) : AW Γ l mX12_holdsLine (d + 1) b 20 [vR 171, vI x1, vI y2, vI y3, vI y4, vU, vU, vU, vU] [] (stt g) K := by
  refine aw_iload (i := 4) (by decide +kernel) rfl ?_
  refine aw_aload_n (k' := 0) (by decide +kernel) rfl ?_
  refine gfX12_13 rfl (by decide +kernel) (OB.at (ci := 10) (show shp 171 = (20, 0) by decide +kernel) (by decide)) ?_
  refine AW.topR (show RC 171 1 = 172 by decide +kernel) ?_
  refine aw_iload_n (k' := 3) (by decide +kernel) rfl ?_
  refine aw_iconst (n := 3) (by decide +kernel) ?_
  refine aw_iadd (by decide +kernel) ?_
  refine ax_iald (i := wr (y3 + 3)) (by decide +kernel) (isA_lit (show shp 172 = (0, 2184) by decide +kernel) (by decide)) rfl hF.1 ?_
  replace hF := hF.2
  refine ax_icmp_ge (off := 229) (tgt := 259) (x' := wr y4) (y' := wr (g 172 (wr (y3 + 3)))) (by decide +kernel) (by decide) rfl rfl (fun hc => ?_) (fun hc => ?_)
  · have hF := hF.1 hc
    refine aw_iload_n (k' := 2) (by decide +kernel) rfl ?_
    refine ax_if_eq (off := 13) (tgt := 273) (x' := wr y2) (by decide +kernel) (by decide) rfl (fun hc => ?_) (fun hc => ?_)
    · have hF := hF.1 hc
      refine aw_iconst (n := 1) (by decide +kernel) ?_
      refine aw_goto (off := 4) (tgt := 278) (by decide +kernel) (by decide) ?_
      exact aw_zret (by decide +kernel) rfl rfl hF
    · have hF := hF.2 hc
      refine aw_aload_n (k' := 0) (by decide +kernel) rfl ?_
      refine gfX12_45 rfl (by decide +kernel) (OB.at (ci := 10) (show shp 171 = (20, 0) by decide +kernel) (by decide)) ?_
      refine AW.topR (show RC 171 23 = 181 by decide +kernel) ?_
      refine aw_iconst (n := 0) (by decide +kernel) ?_
      refine ax_iald (i := 0) (by decide +kernel) (isA_lit (show shp 181 = (0, 400) by decide +kernel) (by decide)) (by decide +kernel) ⟨by decide, by decide⟩ ?_
      refine aw_iconst (n := 1) (by decide +kernel) ?_
      refine ax_icmp_ne (off := 7) (tgt := 277) (x' := wr (g 181 0)) (y' := 1) (by decide +kernel) (by decide) rfl (by decide +kernel) (fun hc => ?_) (fun hc => ?_)
      · have hF := hF.1 hc
        refine aw_iconst (n := 0) (by decide +kernel) ?_
        exact aw_zret (by decide +kernel) rfl rfl hF
      · have hF := hF.2 hc
        refine aw_iconst (n := 1) (by decide +kernel) ?_
        refine aw_goto (off := 4) (tgt := 278) (by decide +kernel) (by decide) ?_
        exact aw_zret (by decide +kernel) rfl rfl hF
  · have hF := hF.2 hc
    refine aw_aload_n (k' := 0) (by decide +kernel) rfl ?_
    refine gfX12_13 rfl (by decide +kernel) (OB.at (ci := 10) (show shp 171 = (20, 0) by decide +kernel) (by decide)) ?_
    refine AW.topR (show RC 171 1 = 172 by decide +kernel) ?_
    refine aw_sipush (n := 535) (by decide +kernel) (by decide +kernel) ?_
    refine aw_iconst (n := 2) (by decide +kernel) ?_
    refine aw_iload (i := 4) (by decide +kernel) rfl ?_
    refine aw_imul (by decide +kernel) ?_
    refine aw_iadd (by decide +kernel) ?_
    refine ax_iald (i := wr (535 + (2 * y4))) (by decide +kernel) (isA_lit (show shp 172 = (0, 2184) by decide +kernel) (by decide)) rfl hF.1 ?_
    replace hF := hF.2
    refine aw_istore (i := 5) (by decide +kernel) (by decide) ?_
    show AW Γ l mX12_holdsLine (d + 1) b 48 [vR 171, vI x1, vI y2, vI y3, vI y4, vI (g 172 (wr (535 + (2 * y4)))), vU, vU, vU] [] (stt g) K
    refine aw_iload (i := 5) (by decide +kernel) rfl ?_
    refine aw_bipush (n := 10) (by decide +kernel) (by decide +kernel) ?_
    refine ax_icmp_gt (off := 36) (tgt := 88) (x' := wr (g 172 (wr (535 + (2 * y4))))) (y' := 10) (by decide +kernel) (by decide) rfl (by decide +kernel) (fun hc => ?_) (fun hc => ?_)
    · have hF := hF.1 hc
      refine aw_iload (i := 5) (by decide +kernel) rfl ?_
      refine aw_bipush (n := 14) (by decide +kernel) (by decide +kernel) ?_
      refine ax_icmp_ne (off := 24) (tgt := 116) (x' := wr (g 172 (wr (535 + (2 * y4))))) (y' := 14) (by decide +kernel) (by decide) rfl (by decide +kernel) (fun hc => ?_) (fun hc => ?_)
      · have hF := hF.1 hc
        refine aw_iinc (i := 2) (n := -1) (by decide +kernel) rfl (by decide) ?_
        show AW Γ l mX12_holdsLine (d + 1) b 119 [vR 171, vI x1, vI (y2 + (-1)), vI y3, vI y4, vI (g 172 (wr (535 + (2 * y4)))), vU, vU, vU] [] (stt g) K
        refine aw_aload_n (k' := 0) (by decide +kernel) rfl ?_
        refine gfX12_45 rfl (by decide +kernel) (OB.at (ci := 10) (show shp 171 = (20, 0) by decide +kernel) (by decide)) ?_
        refine AW.topR (show RC 171 23 = 181 by decide +kernel) ?_
        refine aw_iload_n (k' := 2) (by decide +kernel) rfl ?_
        refine aw_iconst (n := 1) (by decide +kernel) ?_
        refine aw_isub (by decide +kernel) ?_
        refine ax_iald (i := wr ((y2 + (-1)) - 1)) (by decide +kernel) (isA_lit (show shp 181 = (0, 400) by decide +kernel) (by decide)) rfl hF.1 ?_
        replace hF := hF.2
        refine aw_istore (i := 6) (by decide +kernel) (by decide) ?_
        show AW Γ l mX12_holdsLine (d + 1) b 129 [vR 171, vI x1, vI (y2 + (-1)), vI y3, vI y4, vI (g 172 (wr (535 + (2 * y4)))), vI (g 181 (wr ((y2 + (-1)) - 1))), vU, vU] [] (stt g) K
        refine aw_aload_n (k' := 0) (by decide +kernel) rfl ?_
        refine gfX12_45 rfl (by decide +kernel) (OB.at (ci := 10) (show shp 171 = (20, 0) by decide +kernel) (by decide)) ?_
        refine AW.topR (show RC 171 23 = 181 by decide +kernel) ?_
        refine aw_iload_n (k' := 2) (by decide +kernel) rfl ?_
        refine ax_iald (i := wr (y2 + (-1))) (by decide +kernel) (isA_lit (show shp 181 = (0, 400) by decide +kernel) (by decide)) rfl hF.1 ?_
        replace hF := hF.2
        refine aw_istore (i := 7) (by decide +kernel) (by decide) ?_
        show AW Γ l mX12_holdsLine (d + 1) b 137 [vR 171, vI x1, vI (y2 + (-1)), vI y3, vI y4, vI (g 172 (wr (535 + (2 * y4)))), vI (g 181 (wr ((y2 + (-1)) - 1))), vI (g 181 (wr (y2 + (-1)))), vU] [] (stt g) K
        refine aw_iload (i := 5) (by decide +kernel) rfl ?_
        refine aw_bipush (n := 12) (by decide +kernel) (by decide +kernel) ?_
        refine ax_icmp_ne (off := 18) (tgt := 159) (x' := wr (g 172 (wr (535 + (2 * y4))))) (y' := 12) (by decide +kernel) (by decide) rfl (by decide +kernel) (fun hc => ?_) (fun hc => ?_)
        · have hF := hF.1 hc
          refine aw_iload (i := 5) (by decide +kernel) rfl ?_
          refine aw_bipush (n := 13) (by decide +kernel) (by decide +kernel) ?_
          refine ax_icmp_ne (off := 18) (tgt := 181) (x' := wr (g 172 (wr (535 + (2 * y4))))) (y' := 13) (by decide +kernel) (by decide) rfl (by decide +kernel) (fun hc => ?_) (fun hc => ?_)
          · have hF := hF.1 hc
            refine aw_iload (i := 5) (by decide +kernel) rfl ?_
            refine aw_bipush (n := 15) (by decide +kernel) (by decide +kernel) ?_
            refine ax_icmp_ne (off := 20) (tgt := 205) (x' := wr (g 172 (wr (535 + (2 * y4))))) (y' := 15) (by decide +kernel) (by decide) rfl (by decide +kernel) (fun hc => ?_) (fun hc => ?_)
            · have hF := hF.1 hc
              refine aw_iload (i := 6) (by decide +kernel) rfl ?_
              refine aw_iload (i := 7) (by decide +kernel) rfl ?_
              refine aw_iadd (by decide +kernel) ?_
              refine ax_if_le (off := 7) (tgt := 217) (x' := wr ((g 181 (wr ((y2 + (-1)) - 1))) + (g 181 (wr (y2 + (-1)))))) (by decide +kernel) (by decide) rfl (fun hc => ?_) (fun hc => ?_)
              · have hF := hF.1 hc
                refine aw_iconst (n := 0) (by decide +kernel) ?_
                exact hF
              · have hF := hF.2 hc
                refine aw_iconst (n := 1) (by decide +kernel) ?_
                refine aw_goto (off := 4) (tgt := 218) (by decide +kernel) (by decide) ?_
                exact hF
            · have hF := hF.2 hc
              refine aw_iload (i := 6) (by decide +kernel) rfl ?_
              refine aw_iload (i := 7) (by decide +kernel) rfl ?_
              refine aw_iadd (by decide +kernel) ?_
              refine aw_iconst (n := 2) (by decide +kernel) ?_
              refine ax_icmp_ne (off := 7) (tgt := 201) (x' := wr ((g 181 (wr ((y2 + (-1)) - 1))) + (g 181 (wr (y2 + (-1)))))) (y' := 2) (by decide +kernel) (by decide) rfl (by decide +kernel) (fun hc => ?_) (fun hc => ?_)
              · have hF := hF.1 hc
                refine aw_iconst (n := 0) (by decide +kernel) ?_
                refine aw_goto (off := 16) (tgt := 218) (by decide +kernel) (by decide) ?_
                exact hF
              · have hF := hF.2 hc
                refine aw_iconst (n := 1) (by decide +kernel) ?_
                refine aw_goto (off := 20) (tgt := 218) (by decide +kernel) (by decide) ?_
                exact hF
          · have hF := hF.2 hc
            refine aw_iload (i := 6) (by decide +kernel) rfl ?_
            refine aw_iload (i := 7) (by decide +kernel) rfl ?_
            refine ax_icmp_le (off := 7) (tgt := 177) (x' := wr (g 181 (wr ((y2 + (-1)) - 1)))) (y' := wr (g 181 (wr (y2 + (-1))))) (by decide +kernel) (by decide) rfl rfl (fun hc => ?_) (fun hc => ?_)
            · have hF := hF.1 hc
              refine aw_iconst (n := 0) (by decide +kernel) ?_
              refine aw_goto (off := 40) (tgt := 218) (by decide +kernel) (by decide) ?_
              exact hF
            · have hF := hF.2 hc
              refine aw_iconst (n := 1) (by decide +kernel) ?_
              refine aw_goto (off := 44) (tgt := 218) (by decide +kernel) (by decide) ?_
              exact hF
        · have hF := hF.2 hc
          refine aw_iload (i := 6) (by decide +kernel) rfl ?_
          refine aw_iload (i := 7) (by decide +kernel) rfl ?_
          refine ax_icmp_ge (off := 7) (tgt := 155) (x' := wr (g 181 (wr ((y2 + (-1)) - 1)))) (y' := wr (g 181 (wr (y2 + (-1))))) (by decide +kernel) (by decide) rfl rfl (fun hc => ?_) (fun hc => ?_)
          · have hF := hF.1 hc
            refine aw_iconst (n := 0) (by decide +kernel) ?_
            refine aw_goto (off := 62) (tgt := 218) (by decide +kernel) (by decide) ?_
            exact hF
          · have hF := hF.2 hc
            refine aw_iconst (n := 1) (by decide +kernel) ?_
            refine aw_goto (off := 66) (tgt := 218) (by decide +kernel) (by decide) ?_
            exact hF
      · have hF := hF.2 hc
        refine aw_aload_n (k' := 0) (by decide +kernel) rfl ?_
        refine gfX12_45 rfl (by decide +kernel) (OB.at (ci := 10) (show shp 171 = (20, 0) by decide +kernel) (by decide)) ?_
        refine AW.topR (show RC 171 23 = 181 by decide +kernel) ?_
        refine aw_iload_n (k' := 2) (by decide +kernel) rfl ?_
        refine aw_iconst (n := 1) (by decide +kernel) ?_
        refine aw_isub (by decide +kernel) ?_
        refine aw_iconst (n := 1) (by decide +kernel) ?_
        refine aw_aload_n (k' := 0) (by decide +kernel) rfl ?_
        refine gfX12_45 rfl (by decide +kernel) (OB.at (ci := 10) (show shp 171 = (20, 0) by decide +kernel) (by decide)) ?_
        refine AW.topR (show RC 171 23 = 181 by decide +kernel) ?_
        refine aw_iload_n (k' := 2) (by decide +kernel) rfl ?_
        refine aw_iconst (n := 1) (by decide +kernel) ?_
        refine aw_isub (by decide +kernel) ?_
        refine ax_iald (i := wr (y2 - 1)) (by decide +kernel) (isA_lit (show shp 181 = (0, 400) by decide +kernel) (by decide)) rfl hF.1 ?_
        replace hF := hF.2
        refine aw_isub (by decide +kernel) ?_
        refine ax_iast (i := wr (y2 - 1)) (by decide +kernel) (isA_lit (show shp 181 = (0, 400) by decide +kernel) (by decide)) rfl hF.1 ?_
        show AW Γ l mX12_holdsLine (d + 1) b 113 [vR 171, vI x1, vI y2, vI y3, vI y4, vI (g 172 (wr (535 + (2 * y4)))), vU, vU, vU] [] (stt (upd2 g 181 (wr (y2 - 1)) (1 - (g 181 (wr (y2 - 1)))))) K
        replace hF := hF.2
        show AW Γ l mX12_holdsLine (d + 1) b 113 [vR 171, vI x1, vI y2, vI y3, vI y4, vI (g 172 (wr (535 + (2 * y4)))), vU, vU, vU] [] (stt (upd2 g 181 (wr (y2 - 1)) (1 - (g 181 (wr (y2 - 1)))))) K
        generalize eg1 : upd2 g 181 (wr (y2 - 1)) (1 - (g 181 (wr (y2 - 1)))) = g1
        replace hF := hF g1 eg1.symm
        refine aw_goto (off := 140) (tgt := 253) (by decide +kernel) (by decide) ?_
        refine aw_iinc (i := 4) (n := 1) (by decide +kernel) rfl (by decide) ?_
        show AW Γ l mX12_holdsLine (d + 1) b 256 [vR 171, vI x1, vI y2, vI y3, vI (y4 + 1), vI (g 172 (wr (535 + (2 * y4)))), vU, vU, vU] [] (stt g1) K
        refine aw_goto (off := -236) (tgt := 20) (by decide +kernel) (by decide) ?_
        exact hF
    · have hF := hF.2 hc
      refine aw_aload_n (k' := 0) (by decide +kernel) rfl ?_
      refine gfX12_45 rfl (by decide +kernel) (OB.at (ci := 10) (show shp 171 = (20, 0) by decide +kernel) (by decide)) ?_
      refine AW.topR (show RC 171 23 = 181 by decide +kernel) ?_
      refine aw_iload_n (k' := 2) (by decide +kernel) rfl ?_
      refine aw_aload_n (k' := 0) (by decide +kernel) rfl ?_
      refine aw_iload (i := 5) (by decide +kernel) rfl ?_
      refine aw_aload_n (k' := 0) (by decide +kernel) rfl ?_
      refine gfX12_13 rfl (by decide +kernel) (OB.at (ci := 10) (show shp 171 = (20, 0) by decide +kernel) (by decide)) ?_
      refine AW.topR (show RC 171 1 = 172 by decide +kernel) ?_
      refine aw_sipush (n := 535) (by decide +kernel) (by decide +kernel) ?_
      refine aw_iconst (n := 2) (by decide +kernel) ?_
      refine aw_iload (i := 4) (by decide +kernel) rfl ?_
      refine aw_imul (by decide +kernel) ?_
      refine aw_iadd (by decide +kernel) ?_
      refine aw_iconst (n := 1) (by decide +kernel) ?_
      refine aw_iadd (by decide +kernel) ?_
      refine ax_iald (i := wr ((535 + (2 * y4)) + 1)) (by decide +kernel) (isA_lit (show shp 172 = (0, 2184) by decide +kernel) (by decide)) rfl hF.1 ?_
      replace hF := hF.2
      refine aw_callV (y := yX12_factOf) (M2 := mX12_factOf) (as := [vI (g 172 (wr (535 + (2 * y4)))), vI (g 172 (wr ((535 + (2 * y4)) + 1)))]) (S := [vI y2, vR 181]) (t := 171) (d2 := d) (b2 := 0) (b3 := b) cwX12_factOf mlX12_321 imX12_factOf seX12_factOf (by decide +kernel) rfl (ci := 10) rfl (OB.at (ci := 10) (show shp 171 = (20, 0) by decide +kernel) (by decide)) (Nat.le_refl _) (Nat.le_of_eq (Nat.zero_add _)) rfl rfl (by simp [oneSlot]) (Nat.le_of_ble_eq_true rfl) (Ct.mono hF ?_)
      rintro o h' (⟨v1, g2, rfl, rfl, hG⟩ | ⟨E, g, rfl, rfl, hG⟩)
      · show AW Γ l mX12_holdsLine (d + 1) b 81 [vR 171, vI x1, vI y2, vI y3, vI y4, vI (g 172 (wr (535 + (2 * y4)))), vU, vU, vU] [vI v1, vI y2, vR 181] (stt g2) K
        refine ax_iast (i := wr y2) (by decide +kernel) (isA_lit (show shp 181 = (0, 400) by decide +kernel) (by decide)) rfl hG.1 ?_
        show AW Γ l mX12_holdsLine (d + 1) b 82 [vR 171, vI x1, vI y2, vI y3, vI y4, vI (g 172 (wr (535 + (2 * y4)))), vU, vU, vU] [] (stt (upd2 g2 181 (wr y2) v1)) K
        replace hG := hG.2
        refine aw_iinc (i := 2) (n := 1) (by decide +kernel) rfl (by decide) ?_
        show AW Γ l mX12_holdsLine (d + 1) b 85 [vR 171, vI x1, vI (y2 + 1), vI y3, vI y4, vI (g 172 (wr (535 + (2 * y4)))), vU, vU, vU] [] (stt (upd2 g2 181 (wr y2) v1)) K
        refine aw_goto (off := 168) (tgt := 253) (by decide +kernel) (by decide) ?_
        refine aw_iinc (i := 4) (n := 1) (by decide +kernel) rfl (by decide) ?_
        show AW Γ l mX12_holdsLine (d + 1) b 256 [vR 171, vI x1, vI (y2 + 1), vI y3, vI (y4 + 1), vI (g 172 (wr (535 + (2 * y4)))), vU, vU, vU] [] (stt (upd2 g2 181 (wr y2) v1)) K
        refine aw_goto (off := -236) (tgt := 20) (by decide +kernel) (by decide) ?_
        exact hG
      · exact hG
set_option maxHeartbeats 1000000 in
theorem wpX12_holdsLine_218 {Γ : Cfg} {l : Launch} {d b : Nat} {g : GG} {K : Ou → HP → Prop} {x1 : Int} {y2 : Int} {y3 : Int} {y4 : Int} {y5 : Int} {y6 : Int} {y7 : Int} {s0 : Int} (hF : (¬ wr y5 = 11 → (wr s0 = 0 → (0 ≤ wr (y2 - 1) ∧ wr (y2 - 1) < 400) ∧ (AW Γ l mX12_holdsLine (d + 1) b 20 [vR 171, vI x1, vI y2, vI y3, vI (y4 + 1), vI y5, vI y6, vI y7, vI s0] [] (stt (upd2 g 181 (wr (y2 - 1)) 0)) K)) ∧ (¬ (wr s0 = 0) → (0 ≤ wr (y2 - 1) ∧ wr (y2 - 1) < 400) ∧ (AW Γ l mX12_holdsLine (d + 1) b 20 [vR 171, vI x1, vI y2, vI y3, vI (y4 + 1), vI y5, vI y6, vI y7, vI s0] [] (stt (upd2 g 181 (wr (y2 - 1)) 1)) K))) ∧ (¬ (¬ wr y5 = 11) → (0 ≤ wr (y2 - 1) ∧ wr (y2 - 1) < 400) ∧ (AW Γ l mX12_holdsLine (d + 1) b 20 [vR 171, vI x1, vI y2, vI y3, vI (y4 + 1), vI y5, vI y6, vI y7, vI s0] [] (stt (upd2 g 181 (wr (y2 - 1)) (y6 + y7))) K))) : AW Γ l mX12_holdsLine (d + 1) b 218 [vR 171, vI x1, vI y2, vI y3, vI y4, vI y5, vI y6, vI y7, vU] [vI s0] (stt g) K := by
  refine aw_istore (i := 8) (by decide +kernel) (by decide) ?_
  show AW Γ l mX12_holdsLine (d + 1) b 220 [vR 171, vI x1, vI y2, vI y3, vI y4, vI y5, vI y6, vI y7, vI s0] [] (stt g) K
  refine aw_aload_n (k' := 0) (by decide +kernel) rfl ?_
  refine gfX12_45 rfl (by decide +kernel) (OB.at (ci := 10) (show shp 171 = (20, 0) by decide +kernel) (by decide)) ?_
  refine AW.topR (show RC 171 23 = 181 by decide +kernel) ?_
  refine aw_iload_n (k' := 2) (by decide +kernel) rfl ?_
  refine aw_iconst (n := 1) (by decide +kernel) ?_
  refine aw_isub (by decide +kernel) ?_
  refine aw_iload (i := 5) (by decide +kernel) rfl ?_
  refine aw_bipush (n := 11) (by decide +kernel) (by decide +kernel) ?_
  refine ax_icmp_ne (off := 11) (tgt := 242) (x' := wr y5) (y' := 11) (by decide +kernel) (by decide) rfl (by decide +kernel) (fun hc => ?_) (fun hc => ?_)
  · have hF := hF.1 hc
    refine aw_iload (i := 8) (by decide +kernel) rfl ?_
    refine ax_if_eq (off := 7) (tgt := 251) (x' := wr s0) (by decide +kernel) (by decide) rfl (fun hc => ?_) (fun hc => ?_)
    · have hF := hF.1 hc
      refine aw_iconst (n := 0) (by decide +kernel) ?_
      refine ax_iast (i := wr (y2 - 1)) (by decide +kernel) (isA_lit (show shp 181 = (0, 400) by decide +kernel) (by decide)) rfl hF.1 ?_
      show AW Γ l mX12_holdsLine (d + 1) b 253 [vR 171, vI x1, vI y2, vI y3, vI y4, vI y5, vI y6, vI y7, vI s0] [] (stt (upd2 g 181 (wr (y2 - 1)) 0)) K
      replace hF := hF.2
      refine aw_iinc (i := 4) (n := 1) (by decide +kernel) rfl (by decide) ?_
      show AW Γ l mX12_holdsLine (d + 1) b 256 [vR 171, vI x1, vI y2, vI y3, vI (y4 + 1), vI y5, vI y6, vI y7, vI s0] [] (stt (upd2 g 181 (wr (y2 - 1)) 0)) K
      refine aw_goto (off := -236) (tgt := 20) (by decide +kernel) (by decide) ?_
      exact hF
    · have hF := hF.2 hc
      refine aw_iconst (n := 1) (by decide +kernel) ?_
      refine aw_goto (off := 4) (tgt := 252) (by decide +kernel) (by decide) ?_
      refine ax_iast (i := wr (y2 - 1)) (by decide +kernel) (isA_lit (show shp 181 = (0, 400) by decide +kernel) (by decide)) rfl hF.1 ?_
      show AW Γ l mX12_holdsLine (d + 1) b 253 [vR 171, vI x1, vI y2, vI y3, vI y4, vI y5, vI y6, vI y7, vI s0] [] (stt (upd2 g 181 (wr (y2 - 1)) 1)) K
      replace hF := hF.2
      refine aw_iinc (i := 4) (n := 1) (by decide +kernel) rfl (by decide) ?_
      show AW Γ l mX12_holdsLine (d + 1) b 256 [vR 171, vI x1, vI y2, vI y3, vI (y4 + 1), vI y5, vI y6, vI y7, vI s0] [] (stt (upd2 g 181 (wr (y2 - 1)) 1)) K
      refine aw_goto (off := -236) (tgt := 20) (by decide +kernel) (by decide) ?_
      exact hF
  · have hF := hF.2 hc
    refine aw_iload (i := 6) (by decide +kernel) rfl ?_
    refine aw_iload (i := 7) (by decide +kernel) rfl ?_
    refine aw_iadd (by decide +kernel) ?_
    refine aw_goto (off := 13) (tgt := 252) (by decide +kernel) (by decide) ?_
    refine ax_iast (i := wr (y2 - 1)) (by decide +kernel) (isA_lit (show shp 181 = (0, 400) by decide +kernel) (by decide)) rfl hF.1 ?_
    show AW Γ l mX12_holdsLine (d + 1) b 253 [vR 171, vI x1, vI y2, vI y3, vI y4, vI y5, vI y6, vI y7, vI s0] [] (stt (upd2 g 181 (wr (y2 - 1)) (y6 + y7))) K
    replace hF := hF.2
    refine aw_iinc (i := 4) (n := 1) (by decide +kernel) rfl (by decide) ?_
    show AW Γ l mX12_holdsLine (d + 1) b 256 [vR 171, vI x1, vI y2, vI y3, vI (y4 + 1), vI y5, vI y6, vI y7, vI s0] [] (stt (upd2 g 181 (wr (y2 - 1)) (y6 + y7))) K
    refine aw_goto (off := -236) (tgt := 20) (by decide +kernel) (by decide) ?_
    exact hF

set_option maxHeartbeats 1000000 in
theorem wpX12_sumOf {Γ : Cfg} {l : Launch} {d b : Nat} {g : GG} {K : Ou → HP → Prop} {x1 : Int} (hF : AW Γ l mX12_sumOf (d + 1) b 4 [vR 171, vI x1, vI 0, vI 0] [] (stt g) K) : Ct Γ l (d + 1) b yX12_sumOf mX12_sumOf [vR 171, vI x1] (stt g) K := by
  refine Ct.enter (L := [vR 171, vI x1, vU, vU]) rfl rfl rfl (by decide +kernel) (by simp [oneSlot]) (Nat.le_of_ble_eq_true rfl) rfl ?_
  refine aw_iconst (n := 0) (by decide +kernel) ?_
  refine aw_istore_n (k' := 2) (by decide +kernel) (by decide) ?_
  show AW Γ l mX12_sumOf (d + 1) b 2 [vR 171, vI x1, vI 0, vU] [] (stt g) K
  refine aw_iconst (n := 0) (by decide +kernel) ?_
  refine aw_istore_n (k' := 3) (by decide +kernel) (by decide) ?_
  show AW Γ l mX12_sumOf (d + 1) b 4 [vR 171, vI x1, vI 0, vI 0] [] (stt g) K
  exact hF
set_option maxHeartbeats 1000000 in
theorem wpX12_sumOf_4 {Γ : Cfg} {l : Launch} {d b : Nat} {g : GG} {K : Ou → HP → Prop} {x1 : Int} {y2 : Int} {y3 : Int} (hF : (¬ wr (g 172 2) = 1 → K (.inl (vI y2)) (stt g)) ∧ (¬ (¬ wr (g 172 2) = 1) → (wr (g 172 486) ≤ wr y3 → K (.inl (vI y2)) (stt g)) ∧ (¬ (wr (g 172 486) ≤ wr y3) → (0 ≤ wr (487 + (4 * y3)) ∧ wr (487 + (4 * y3)) < 2184) ∧ ((¬ wr (g 172 (wr (487 + (4 * y3)))) = wr x1 → AW Γ l mX12_sumOf (d + 1) b 4 [vR 171, vI x1, vI y2, vI (y3 + 1)] [] (stt g) K) ∧ (¬ (¬ wr (g 172 (wr (487 + (4 * y3)))) = wr x1) → Ct Γ l d 0 yX12_holdsLine mX12_holdsLine [vR 171, vI y3] (stt g) (bI (fun v1 g1 => (wr v1 = 0 → AW Γ l mX12_sumOf (d + 1) b 4 [vR 171, vI x1, vI y2, vI (y3 + 1)] [] (stt g1) K) ∧ (¬ (wr v1 = 0) → (0 ≤ wr ((487 + (4 * y3)) + 1) ∧ wr ((487 + (4 * y3)) + 1) < 2184) ∧ (AW Γ l mX12_sumOf (d + 1) b 4 [vR 171, vI x1, vI (y2 + (g1 172 (wr ((487 + (4 * y3)) + 1)))), vI (y3 + 1)] [] (stt g1) K))) K)))))) : AW Γ l mX12_sumOf (d + 1) b 4 [vR 171, vI x1, vI y2, vI y3] [] (stt g) K := by
  refine aw_aload_n (k' := 0) (by decide +kernel) rfl ?_
  refine gfX12_13 rfl (by decide +kernel) (OB.at (ci := 10) (show shp 171 = (20, 0) by decide +kernel) (by decide)) ?_
  refine AW.topR (show RC 171 1 = 172 by decide +kernel) ?_
  refine aw_iconst (n := 2) (by decide +kernel) ?_
  refine ax_iald (i := 2) (by decide +kernel) (isA_lit (show shp 172 = (0, 2184) by decide +kernel) (by decide)) (by decide +kernel) ⟨by decide, by decide⟩ ?_
  refine aw_iconst (n := 1) (by decide +kernel) ?_
  refine ax_icmp_ne (off := 62) (tgt := 73) (x' := wr (g 172 2)) (y' := 1) (by decide +kernel) (by decide) rfl (by decide +kernel) (fun hc => ?_) (fun hc => ?_)
  · have hF := hF.1 hc
    refine aw_iload_n (k' := 2) (by decide +kernel) rfl ?_
    exact aw_iret (by decide +kernel) rfl hF
  · have hF := hF.2 hc
    refine aw_iload_n (k' := 3) (by decide +kernel) rfl ?_
    refine aw_aload_n (k' := 0) (by decide +kernel) rfl ?_
    refine gfX12_13 rfl (by decide +kernel) (OB.at (ci := 10) (show shp 171 = (20, 0) by decide +kernel) (by decide)) ?_
    refine AW.topR (show RC 171 1 = 172 by decide +kernel) ?_
    refine aw_sipush (n := 486) (by decide +kernel) (by decide +kernel) ?_
    refine ax_iald (i := 486) (by decide +kernel) (isA_lit (show shp 172 = (0, 2184) by decide +kernel) (by decide)) (by decide +kernel) ⟨by decide, by decide⟩ ?_
    refine ax_icmp_ge (off := 50) (tgt := 73) (x' := wr y3) (y' := wr (g 172 486)) (by decide +kernel) (by decide) rfl rfl (fun hc => ?_) (fun hc => ?_)
    · have hF := hF.1 hc
      refine aw_iload_n (k' := 2) (by decide +kernel) rfl ?_
      exact aw_iret (by decide +kernel) rfl hF
    · have hF := hF.2 hc
      refine aw_aload_n (k' := 0) (by decide +kernel) rfl ?_
      refine gfX12_13 rfl (by decide +kernel) (OB.at (ci := 10) (show shp 171 = (20, 0) by decide +kernel) (by decide)) ?_
      refine AW.topR (show RC 171 1 = 172 by decide +kernel) ?_
      refine aw_sipush (n := 487) (by decide +kernel) (by decide +kernel) ?_
      refine aw_iconst (n := 4) (by decide +kernel) ?_
      refine aw_iload_n (k' := 3) (by decide +kernel) rfl ?_
      refine aw_imul (by decide +kernel) ?_
      refine aw_iadd (by decide +kernel) ?_
      refine ax_iald (i := wr (487 + (4 * y3))) (by decide +kernel) (isA_lit (show shp 172 = (0, 2184) by decide +kernel) (by decide)) rfl hF.1 ?_
      replace hF := hF.2
      refine aw_iload_n (k' := 1) (by decide +kernel) rfl ?_
      refine ax_icmp_ne (off := 28) (tgt := 67) (x' := wr (g 172 (wr (487 + (4 * y3))))) (y' := wr x1) (by decide +kernel) (by decide) rfl rfl (fun hc => ?_) (fun hc => ?_)
      · have hF := hF.1 hc
        refine aw_iinc (i := 3) (n := 1) (by decide +kernel) rfl (by decide) ?_
        show AW Γ l mX12_sumOf (d + 1) b 70 [vR 171, vI x1, vI y2, vI (y3 + 1)] [] (stt g) K
        refine aw_goto (off := -66) (tgt := 4) (by decide +kernel) (by decide) ?_
        exact hF
      · have hF := hF.2 hc
        refine aw_aload_n (k' := 0) (by decide +kernel) rfl ?_
        refine aw_iload_n (k' := 3) (by decide +kernel) rfl ?_
        refine aw_callV (y := yX12_holdsLine) (M2 := mX12_holdsLine) (as := [vI y3]) (S := []) (t := 171) (d2 := d) (b2 := 0) (b3 := b) cwX12_holdsLine mlX12_324 imX12_holdsLine seX12_holdsLine (by decide +kernel) rfl (ci := 10) rfl (OB.at (ci := 10) (show shp 171 = (20, 0) by decide +kernel) (by decide)) (Nat.le_refl _) (Nat.le_of_eq (Nat.zero_add _)) rfl rfl (by simp [oneSlot]) (Nat.le_of_ble_eq_true rfl) (Ct.mono hF ?_)
        rintro o h' (⟨v1, g1, rfl, rfl, hG⟩ | ⟨E, g, rfl, rfl, hG⟩)
        · show AW Γ l mX12_sumOf (d + 1) b 47 [vR 171, vI x1, vI y2, vI y3] [vI v1] (stt g1) K
          refine ax_if_eq (off := 20) (tgt := 67) (x' := wr v1) (by decide +kernel) (by decide) rfl (fun hc => ?_) (fun hc => ?_)
          · have hG := hG.1 hc
            refine aw_iinc (i := 3) (n := 1) (by decide +kernel) rfl (by decide) ?_
            show AW Γ l mX12_sumOf (d + 1) b 70 [vR 171, vI x1, vI y2, vI (y3 + 1)] [] (stt g1) K
            refine aw_goto (off := -66) (tgt := 4) (by decide +kernel) (by decide) ?_
            exact hG
          · have hG := hG.2 hc
            refine aw_iload_n (k' := 2) (by decide +kernel) rfl ?_
            refine aw_aload_n (k' := 0) (by decide +kernel) rfl ?_
            refine gfX12_13 rfl (by decide +kernel) (OB.at (ci := 10) (show shp 171 = (20, 0) by decide +kernel) (by decide)) ?_
            refine AW.topR (show RC 171 1 = 172 by decide +kernel) ?_
            refine aw_sipush (n := 487) (by decide +kernel) (by decide +kernel) ?_
            refine aw_iconst (n := 4) (by decide +kernel) ?_
            refine aw_iload_n (k' := 3) (by decide +kernel) rfl ?_
            refine aw_imul (by decide +kernel) ?_
            refine aw_iadd (by decide +kernel) ?_
            refine aw_iconst (n := 1) (by decide +kernel) ?_
            refine aw_iadd (by decide +kernel) ?_
            refine ax_iald (i := wr ((487 + (4 * y3)) + 1)) (by decide +kernel) (isA_lit (show shp 172 = (0, 2184) by decide +kernel) (by decide)) rfl hG.1 ?_
            replace hG := hG.2
            refine aw_iadd (by decide +kernel) ?_
            refine aw_istore_n (k' := 2) (by decide +kernel) (by decide) ?_
            show AW Γ l mX12_sumOf (d + 1) b 67 [vR 171, vI x1, vI (y2 + (g1 172 (wr ((487 + (4 * y3)) + 1)))), vI y3] [] (stt g1) K
            refine aw_iinc (i := 3) (n := 1) (by decide +kernel) rfl (by decide) ?_
            show AW Γ l mX12_sumOf (d + 1) b 70 [vR 171, vI x1, vI (y2 + (g1 172 (wr ((487 + (4 * y3)) + 1)))), vI (y3 + 1)] [] (stt g1) K
            refine aw_goto (off := -66) (tgt := 4) (by decide +kernel) (by decide) ?_
            exact hG
        · exact hG

set_option maxHeartbeats 1000000 in
theorem wpX12_baseOf {Γ : Cfg} {l : Launch} {d b : Nat} {g : GG} {K : Ou → HP → Prop}  (hF : (¬ wr (g 179 0) = 1 → (¬ wr (g 179 0) = 2 → (¬ wr (g 179 5) = 1 → K (.inl (vI (iMax 0 (9 - (2 * (iBC (g 179 2))))))) (stt g)) ∧ (¬ (¬ wr (g 179 5) = 1) → K (.inl (vI (iDiv (iMax 0 (9 - (2 * (iBC (g 179 2))))) 2))) (stt g))) ∧ (¬ (¬ wr (g 179 0) = 2) → (¬ wr (g 179 5) = 1 → K (.inl (vI (iMax 0 (12 - (g 179 3))))) (stt g)) ∧ (¬ (¬ wr (g 179 5) = 1) → K (.inl (vI (iDiv (iMax 0 (12 - (g 179 3))) 2))) (stt g)))) ∧ (¬ (¬ wr (g 179 0) = 1) → (¬ wr (g 179 5) = 1 → K (.inl (vI (iMax 0 ((g 179 1) + (2 * (iBC (g 179 4))))))) (stt g)) ∧ (¬ (¬ wr (g 179 5) = 1) → K (.inl (vI (iDiv (iMax 0 ((g 179 1) + (2 * (iBC (g 179 4))))) 2))) (stt g)))) : Ct Γ l (d + 1) b yX12_baseOf mX12_baseOf [vR 171] (stt g) K := by
  refine Ct.enter (L := [vR 171, vU]) rfl rfl rfl (by decide +kernel) (by simp [oneSlot]) (Nat.le_of_ble_eq_true rfl) rfl ?_
  refine aw_aload_n (k' := 0) (by decide +kernel) rfl ?_
  refine gfX12_39 rfl (by decide +kernel) (OB.at (ci := 10) (show shp 171 = (20, 0) by decide +kernel) (by decide)) ?_
  refine AW.topR (show RC 171 18 = 179 by decide +kernel) ?_
  refine aw_iconst (n := 0) (by decide +kernel) ?_
  refine ax_iald (i := 0) (by decide +kernel) (isA_lit (show shp 179 = (0, 30) by decide +kernel) (by decide)) (by decide +kernel) ⟨by decide, by decide⟩ ?_
  refine aw_iconst (n := 1) (by decide +kernel) ?_
  refine ax_icmp_ne (off := 24) (tgt := 31) (x' := wr (g 179 0)) (y' := 1) (by decide +kernel) (by decide) rfl (by decide +kernel) (fun hc => ?_) (fun hc => ?_)
  · have hF := hF.1 hc
    refine aw_aload_n (k' := 0) (by decide +kernel) rfl ?_
    refine gfX12_39 rfl (by decide +kernel) (OB.at (ci := 10) (show shp 171 = (20, 0) by decide +kernel) (by decide)) ?_
    refine AW.topR (show RC 171 18 = 179 by decide +kernel) ?_
    refine aw_iconst (n := 0) (by decide +kernel) ?_
    refine ax_iald (i := 0) (by decide +kernel) (isA_lit (show shp 179 = (0, 30) by decide +kernel) (by decide)) (by decide +kernel) ⟨by decide, by decide⟩ ?_
    refine aw_iconst (n := 2) (by decide +kernel) ?_
    refine ax_icmp_ne (off := 15) (tgt := 53) (x' := wr (g 179 0)) (y' := 2) (by decide +kernel) (by decide) rfl (by decide +kernel) (fun hc => ?_) (fun hc => ?_)
    · have hF := hF.1 hc
      refine aw_bipush (n := 9) (by decide +kernel) (by decide +kernel) ?_
      refine aw_iconst (n := 2) (by decide +kernel) ?_
      refine aw_aload_n (k' := 0) (by decide +kernel) rfl ?_
      refine gfX12_39 rfl (by decide +kernel) (OB.at (ci := 10) (show shp 171 = (20, 0) by decide +kernel) (by decide)) ?_
      refine AW.topR (show RC 171 18 = 179 by decide +kernel) ?_
      refine aw_iconst (n := 2) (by decide +kernel) ?_
      refine ax_iald (i := 2) (by decide +kernel) (isA_lit (show shp 179 = (0, 30) by decide +kernel) (by decide)) (by decide +kernel) ⟨by decide, by decide⟩ ?_
      refine aw_callS (y := yJ6_bitCount_0f7a4) (M2 := mJ6_bitCount_0f7a4) (as := [vI (g 179 2)]) (S := [vI 2, vI 9]) (d2 := d) (b2 := 0) (b3 := b) cwJ6_bitCount_0f7a4 mlX12_315 stJ6_bitCount_0f7a4 (by decide +kernel) rfl (Nat.le_refl _) (Nat.le_of_eq (Nat.zero_add _)) rfl rfl (by simp [oneSlot]) (Nat.le_of_ble_eq_true rfl) (c_bitCount ?_)
      show AW Γ l mX12_baseOf (d + 1) b 65 [vR 171, vU] [vI (iBC (g 179 2)), vI 2, vI 9] (stt g) K
      refine aw_imul (by decide +kernel) ?_
      refine aw_isub (by decide +kernel) ?_
      refine aw_istore_n (k' := 1) (by decide +kernel) (by decide) ?_
      show AW Γ l mX12_baseOf (d + 1) b 68 [vR 171, vI (9 - (2 * (iBC (g 179 2))))] [] (stt g) K
      refine aw_aload_n (k' := 0) (by decide +kernel) rfl ?_
      refine gfX12_39 rfl (by decide +kernel) (OB.at (ci := 10) (show shp 171 = (20, 0) by decide +kernel) (by decide)) ?_
      refine AW.topR (show RC 171 18 = 179 by decide +kernel) ?_
      refine aw_iconst (n := 5) (by decide +kernel) ?_
      refine ax_iald (i := 5) (by decide +kernel) (isA_lit (show shp 179 = (0, 30) by decide +kernel) (by decide)) (by decide +kernel) ⟨by decide, by decide⟩ ?_
      refine aw_iconst (n := 1) (by decide +kernel) ?_
      refine ax_icmp_ne (off := 13) (tgt := 88) (x' := wr (g 179 5)) (y' := 1) (by decide +kernel) (by decide) rfl (by decide +kernel) (fun hc => ?_) (fun hc => ?_)
      · have hF := hF.1 hc
        refine aw_iconst (n := 0) (by decide +kernel) ?_
        refine aw_iload_n (k' := 1) (by decide +kernel) rfl ?_
        refine aw_mmax (by decide +kernel) mlX12_327 stJ9_max_7cf53 cwM_init cwM_max (by simp [oneSlot]) (Nat.le_of_ble_eq_true rfl) ?_
        exact aw_iret (by decide +kernel) rfl hF
      · have hF := hF.2 hc
        refine aw_iconst (n := 0) (by decide +kernel) ?_
        refine aw_iload_n (k' := 1) (by decide +kernel) rfl ?_
        refine aw_mmax (by decide +kernel) mlX12_327 stJ9_max_7cf53 cwM_init cwM_max (by simp [oneSlot]) (Nat.le_of_ble_eq_true rfl) ?_
        refine aw_iconst (n := 2) (by decide +kernel) ?_
        refine aw_idiv (by decide +kernel) (by decide +kernel) ?_
        refine aw_goto (off := 8) (tgt := 93) (by decide +kernel) (by decide) ?_
        exact aw_iret (by decide +kernel) rfl hF
    · have hF := hF.2 hc
      refine aw_bipush (n := 12) (by decide +kernel) (by decide +kernel) ?_
      refine aw_aload_n (k' := 0) (by decide +kernel) rfl ?_
      refine gfX12_39 rfl (by decide +kernel) (OB.at (ci := 10) (show shp 171 = (20, 0) by decide +kernel) (by decide)) ?_
      refine AW.topR (show RC 171 18 = 179 by decide +kernel) ?_
      refine aw_iconst (n := 3) (by decide +kernel) ?_
      refine ax_iald (i := 3) (by decide +kernel) (isA_lit (show shp 179 = (0, 30) by decide +kernel) (by decide)) (by decide +kernel) ⟨by decide, by decide⟩ ?_
      refine aw_isub (by decide +kernel) ?_
      refine aw_goto (off := 17) (tgt := 67) (by decide +kernel) (by decide) ?_
      refine aw_istore_n (k' := 1) (by decide +kernel) (by decide) ?_
      show AW Γ l mX12_baseOf (d + 1) b 68 [vR 171, vI (12 - (g 179 3))] [] (stt g) K
      refine aw_aload_n (k' := 0) (by decide +kernel) rfl ?_
      refine gfX12_39 rfl (by decide +kernel) (OB.at (ci := 10) (show shp 171 = (20, 0) by decide +kernel) (by decide)) ?_
      refine AW.topR (show RC 171 18 = 179 by decide +kernel) ?_
      refine aw_iconst (n := 5) (by decide +kernel) ?_
      refine ax_iald (i := 5) (by decide +kernel) (isA_lit (show shp 179 = (0, 30) by decide +kernel) (by decide)) (by decide +kernel) ⟨by decide, by decide⟩ ?_
      refine aw_iconst (n := 1) (by decide +kernel) ?_
      refine ax_icmp_ne (off := 13) (tgt := 88) (x' := wr (g 179 5)) (y' := 1) (by decide +kernel) (by decide) rfl (by decide +kernel) (fun hc => ?_) (fun hc => ?_)
      · have hF := hF.1 hc
        refine aw_iconst (n := 0) (by decide +kernel) ?_
        refine aw_iload_n (k' := 1) (by decide +kernel) rfl ?_
        refine aw_mmax (by decide +kernel) mlX12_327 stJ9_max_7cf53 cwM_init cwM_max (by simp [oneSlot]) (Nat.le_of_ble_eq_true rfl) ?_
        exact aw_iret (by decide +kernel) rfl hF
      · have hF := hF.2 hc
        refine aw_iconst (n := 0) (by decide +kernel) ?_
        refine aw_iload_n (k' := 1) (by decide +kernel) rfl ?_
        refine aw_mmax (by decide +kernel) mlX12_327 stJ9_max_7cf53 cwM_init cwM_max (by simp [oneSlot]) (Nat.le_of_ble_eq_true rfl) ?_
        refine aw_iconst (n := 2) (by decide +kernel) ?_
        refine aw_idiv (by decide +kernel) (by decide +kernel) ?_
        refine aw_goto (off := 8) (tgt := 93) (by decide +kernel) (by decide) ?_
        exact aw_iret (by decide +kernel) rfl hF
  · have hF := hF.2 hc
    refine aw_aload_n (k' := 0) (by decide +kernel) rfl ?_
    refine gfX12_39 rfl (by decide +kernel) (OB.at (ci := 10) (show shp 171 = (20, 0) by decide +kernel) (by decide)) ?_
    refine AW.topR (show RC 171 18 = 179 by decide +kernel) ?_
    refine aw_iconst (n := 1) (by decide +kernel) ?_
    refine ax_iald (i := 1) (by decide +kernel) (isA_lit (show shp 179 = (0, 30) by decide +kernel) (by decide)) (by decide +kernel) ⟨by decide, by decide⟩ ?_
    refine aw_iconst (n := 2) (by decide +kernel) ?_
    refine aw_aload_n (k' := 0) (by decide +kernel) rfl ?_
    refine gfX12_39 rfl (by decide +kernel) (OB.at (ci := 10) (show shp 171 = (20, 0) by decide +kernel) (by decide)) ?_
    refine AW.topR (show RC 171 18 = 179 by decide +kernel) ?_
    refine aw_iconst (n := 4) (by decide +kernel) ?_
    refine ax_iald (i := 4) (by decide +kernel) (isA_lit (show shp 179 = (0, 30) by decide +kernel) (by decide)) (by decide +kernel) ⟨by decide, by decide⟩ ?_
    refine aw_callS (y := yJ6_bitCount_0f7a4) (M2 := mJ6_bitCount_0f7a4) (as := [vI (g 179 4)]) (S := [vI 2, vI (g 179 1)]) (d2 := d) (b2 := 0) (b3 := b) cwJ6_bitCount_0f7a4 mlX12_315 stJ6_bitCount_0f7a4 (by decide +kernel) rfl (Nat.le_refl _) (Nat.le_of_eq (Nat.zero_add _)) rfl rfl (by simp [oneSlot]) (Nat.le_of_ble_eq_true rfl) (c_bitCount ?_)
    show AW Γ l mX12_baseOf (d + 1) b 26 [vR 171, vU] [vI (iBC (g 179 4)), vI 2, vI (g 179 1)] (stt g) K
    refine aw_imul (by decide +kernel) ?_
    refine aw_iadd (by decide +kernel) ?_
    refine aw_goto (off := 39) (tgt := 67) (by decide +kernel) (by decide) ?_
    refine aw_istore_n (k' := 1) (by decide +kernel) (by decide) ?_
    show AW Γ l mX12_baseOf (d + 1) b 68 [vR 171, vI ((g 179 1) + (2 * (iBC (g 179 4))))] [] (stt g) K
    refine aw_aload_n (k' := 0) (by decide +kernel) rfl ?_
    refine gfX12_39 rfl (by decide +kernel) (OB.at (ci := 10) (show shp 171 = (20, 0) by decide +kernel) (by decide)) ?_
    refine AW.topR (show RC 171 18 = 179 by decide +kernel) ?_
    refine aw_iconst (n := 5) (by decide +kernel) ?_
    refine ax_iald (i := 5) (by decide +kernel) (isA_lit (show shp 179 = (0, 30) by decide +kernel) (by decide)) (by decide +kernel) ⟨by decide, by decide⟩ ?_
    refine aw_iconst (n := 1) (by decide +kernel) ?_
    refine ax_icmp_ne (off := 13) (tgt := 88) (x' := wr (g 179 5)) (y' := 1) (by decide +kernel) (by decide) rfl (by decide +kernel) (fun hc => ?_) (fun hc => ?_)
    · have hF := hF.1 hc
      refine aw_iconst (n := 0) (by decide +kernel) ?_
      refine aw_iload_n (k' := 1) (by decide +kernel) rfl ?_
      refine aw_mmax (by decide +kernel) mlX12_327 stJ9_max_7cf53 cwM_init cwM_max (by simp [oneSlot]) (Nat.le_of_ble_eq_true rfl) ?_
      exact aw_iret (by decide +kernel) rfl hF
    · have hF := hF.2 hc
      refine aw_iconst (n := 0) (by decide +kernel) ?_
      refine aw_iload_n (k' := 1) (by decide +kernel) rfl ?_
      refine aw_mmax (by decide +kernel) mlX12_327 stJ9_max_7cf53 cwM_init cwM_max (by simp [oneSlot]) (Nat.le_of_ble_eq_true rfl) ?_
      refine aw_iconst (n := 2) (by decide +kernel) ?_
      refine aw_idiv (by decide +kernel) (by decide +kernel) ?_
      refine aw_goto (off := 8) (tgt := 93) (by decide +kernel) (by decide) ?_
      exact aw_iret (by decide +kernel) rfl hF

set_option maxHeartbeats 1000000 in
theorem wpX12_weighs {Γ : Cfg} {l : Launch} {d b : Nat} {g : GG} {K : Ou → HP → Prop}  (hF : (¬ wr (g 179 0) = 0 → Ct Γ l d 0 yX12_baseOf mX12_baseOf [vR 171] (stt g) (bI (fun v1 g1 => Ct Γ l d 0 yX12_sumOf mX12_sumOf [vR 171, vI 0] (stt g1) (bI (fun v2 g2 => Ct Γ l d 0 yX12_sumOf mX12_sumOf [vR 171, vI 1] (stt g2) (bI (fun v3 g3 => K (.inl (vI (iMax 0 ((v1 + v2) - v3)))) (stt g3)) K)) K)) K)) ∧ (¬ (¬ wr (g 179 0) = 0) → K (.inl (vI 0)) (stt g))) : Ct Γ l (d + 1) b yX12_weighs mX12_weighs [vR 171] (stt g) K := by
  refine Ct.enter (L := [vR 171]) rfl rfl rfl (by decide +kernel) (by simp [oneSlot]) (Nat.le_of_ble_eq_true rfl) rfl ?_
  refine aw_aload_n (k' := 0) (by decide +kernel) rfl ?_
  refine gfX12_39 rfl (by decide +kernel) (OB.at (ci := 10) (show shp 171 = (20, 0) by decide +kernel) (by decide)) ?_
  refine AW.topR (show RC 171 18 = 179 by decide +kernel) ?_
  refine aw_iconst (n := 0) (by decide +kernel) ?_
  refine ax_iald (i := 0) (by decide +kernel) (isA_lit (show shp 179 = (0, 30) by decide +kernel) (by decide)) (by decide +kernel) ⟨by decide, by decide⟩ ?_
  refine ax_if_ne (off := 7) (tgt := 13) (x' := wr (g 179 0)) (by decide +kernel) (by decide) rfl (fun hc => ?_) (fun hc => ?_)
  · have hF := hF.1 hc
    refine aw_iconst (n := 0) (by decide +kernel) ?_
    refine aw_aload_n (k' := 0) (by decide +kernel) rfl ?_
    refine aw_callV (y := yX12_baseOf) (M2 := mX12_baseOf) (as := []) (S := [vI 0]) (t := 171) (d2 := d) (b2 := 0) (b3 := b) cwX12_baseOf mlX12_330 imX12_baseOf seX12_baseOf (by decide +kernel) rfl (ci := 10) rfl (OB.at (ci := 10) (show shp 171 = (20, 0) by decide +kernel) (by decide)) (Nat.le_refl _) (Nat.le_of_eq (Nat.zero_add _)) rfl rfl (by simp [oneSlot]) (Nat.le_of_ble_eq_true rfl) (Ct.mono hF ?_)
    rintro o h' (⟨v1, g1, rfl, rfl, hG⟩ | ⟨E, g, rfl, rfl, hG⟩)
    · show AW Γ l mX12_weighs (d + 1) b 18 [vR 171] [vI v1, vI 0] (stt g1) K
      refine aw_aload_n (k' := 0) (by decide +kernel) rfl ?_
      refine aw_iconst (n := 0) (by decide +kernel) ?_
      refine aw_callV (y := yX12_sumOf) (M2 := mX12_sumOf) (as := [vI 0]) (S := [vI v1, vI 0]) (t := 171) (d2 := d) (b2 := 0) (b3 := b) cwX12_sumOf mlX12_333 imX12_sumOf seX12_sumOf (by decide +kernel) rfl (ci := 10) rfl (OB.at (ci := 10) (show shp 171 = (20, 0) by decide +kernel) (by decide)) (Nat.le_refl _) (Nat.le_of_eq (Nat.zero_add _)) rfl rfl (by simp [oneSlot]) (Nat.le_of_ble_eq_true rfl) (Ct.mono hG ?_)
      rintro o h' (⟨v2, g2, rfl, rfl, hG⟩ | ⟨E, g, rfl, rfl, hG⟩)
      · show AW Γ l mX12_weighs (d + 1) b 23 [vR 171] [vI v2, vI v1, vI 0] (stt g2) K
        refine aw_iadd (by decide +kernel) ?_
        refine aw_aload_n (k' := 0) (by decide +kernel) rfl ?_
        refine aw_iconst (n := 1) (by decide +kernel) ?_
        refine aw_callV (y := yX12_sumOf) (M2 := mX12_sumOf) (as := [vI 1]) (S := [vI (v1 + v2), vI 0]) (t := 171) (d2 := d) (b2 := 0) (b3 := b) cwX12_sumOf mlX12_333 imX12_sumOf seX12_sumOf (by decide +kernel) rfl (ci := 10) rfl (OB.at (ci := 10) (show shp 171 = (20, 0) by decide +kernel) (by decide)) (Nat.le_refl _) (Nat.le_of_eq (Nat.zero_add _)) rfl rfl (by simp [oneSlot]) (Nat.le_of_ble_eq_true rfl) (Ct.mono hG ?_)
        rintro o h' (⟨v3, g3, rfl, rfl, hG⟩ | ⟨E, g, rfl, rfl, hG⟩)
        · show AW Γ l mX12_weighs (d + 1) b 29 [vR 171] [vI v3, vI (v1 + v2), vI 0] (stt g3) K
          refine aw_isub (by decide +kernel) ?_
          refine aw_mmax (by decide +kernel) mlX12_327 stJ9_max_7cf53 cwM_init cwM_max (by simp [oneSlot]) (Nat.le_of_ble_eq_true rfl) ?_
          exact aw_iret (by decide +kernel) rfl hG
        · exact hG
      · exact hG
    · exact hG
  · have hF := hF.2 hc
    refine aw_iconst (n := 0) (by decide +kernel) ?_
    refine aw_goto (off := 23) (tgt := 33) (by decide +kernel) (by decide) ?_
    exact aw_iret (by decide +kernel) rfl hF

set_option maxHeartbeats 1000000 in
theorem wpX12_hears {Γ : Cfg} {l : Launch} {d b : Nat} {g : GG} {K : Ou → HP → Prop}  (hF : Ct Γ l d 0 yX12_sumOf mX12_sumOf [vR 171, vI 2] (stt g) (bI (fun v1 g1 => K (.inl (vI (1 + v1))) (stt g1)) K)) : Ct Γ l (d + 1) b yX12_hears mX12_hears [vR 171] (stt g) K := by
  refine Ct.enter (L := [vR 171]) rfl rfl rfl (by decide +kernel) (by simp [oneSlot]) (Nat.le_of_ble_eq_true rfl) rfl ?_
  refine aw_iconst (n := 1) (by decide +kernel) ?_
  refine aw_aload_n (k' := 0) (by decide +kernel) rfl ?_
  refine aw_iconst (n := 2) (by decide +kernel) ?_
  refine aw_callV (y := yX12_sumOf) (M2 := mX12_sumOf) (as := [vI 2]) (S := [vI 1]) (t := 171) (d2 := d) (b2 := 0) (b3 := b) cwX12_sumOf mlX12_333 imX12_sumOf seX12_sumOf (by decide +kernel) rfl (ci := 10) rfl (OB.at (ci := 10) (show shp 171 = (20, 0) by decide +kernel) (by decide)) (Nat.le_refl _) (Nat.le_of_eq (Nat.zero_add _)) rfl rfl (by simp [oneSlot]) (Nat.le_of_ble_eq_true rfl) (Ct.mono hF ?_)
  rintro o h' (⟨v1, g1, rfl, rfl, hG⟩ | ⟨E, g, rfl, rfl, hG⟩)
  · show AW Γ l mX12_hears (d + 1) b 6 [vR 171] [vI v1, vI 1] (stt g1) K
    refine aw_iadd (by decide +kernel) ?_
    exact aw_iret (by decide +kernel) rfl hG
  · exact hG

set_option maxHeartbeats 1000000 in
theorem wpX12_weightAt {Γ : Cfg} {l : Launch} {d b : Nat} {g : GG} {K : Ou → HP → Prop} {x1 : Int} {x2 : Int} (hF : Ct Γ l d 0 yX12_reads mX12_reads [vR 171, vI x1, vI x2] (stt g) (bV (fun g1 => Ct Γ l d 0 yX12_weighs mX12_weighs [vR 171] (stt g1) (bI (fun v1 g2 => K (.inl (vI v1)) (stt g2)) K)) K)) : Ct Γ l (d + 1) b yX12_weightAt mX12_weightAt [vR 171, vI x1, vI x2] (stt g) K := by
  refine Ct.enter (L := [vR 171, vI x1, vI x2]) rfl rfl rfl (by decide +kernel) (by simp [oneSlot]) (Nat.le_of_ble_eq_true rfl) rfl ?_
  refine aw_aload_n (k' := 0) (by decide +kernel) rfl ?_
  refine aw_iload_n (k' := 1) (by decide +kernel) rfl ?_
  refine aw_iload_n (k' := 2) (by decide +kernel) rfl ?_
  refine aw_callV (y := yX12_reads) (M2 := mX12_reads) (as := [vI x1, vI x2]) (S := []) (t := 171) (d2 := d) (b2 := 0) (b3 := b) cwX12_reads mlX12_336 imX12_reads seX12_reads (by decide +kernel) rfl (ci := 10) rfl (OB.at (ci := 10) (show shp 171 = (20, 0) by decide +kernel) (by decide)) (Nat.le_refl _) (Nat.le_of_eq (Nat.zero_add _)) rfl rfl (by simp [oneSlot]) (Nat.le_of_ble_eq_true rfl) (Ct.mono hF ?_)
  rintro o h' (⟨g1, rfl, rfl, hG⟩ | ⟨E, g, rfl, rfl, hG⟩)
  · show AW Γ l mX12_weightAt (d + 1) b 6 [vR 171, vI x1, vI x2] [] (stt g1) K
    refine aw_aload_n (k' := 0) (by decide +kernel) rfl ?_
    refine aw_callV (y := yX12_weighs) (M2 := mX12_weighs) (as := []) (S := []) (t := 171) (d2 := d) (b2 := 0) (b3 := b) cwX12_weighs mlX12_339 imX12_weighs seX12_weighs (by decide +kernel) rfl (ci := 10) rfl (OB.at (ci := 10) (show shp 171 = (20, 0) by decide +kernel) (by decide)) (Nat.le_refl _) (Nat.le_of_eq (Nat.zero_add _)) rfl rfl (by simp [oneSlot]) (Nat.le_of_ble_eq_true rfl) (Ct.mono hG ?_)
    rintro o h' (⟨v1, g2, rfl, rfl, hG⟩ | ⟨E, g, rfl, rfl, hG⟩)
    · show AW Γ l mX12_weightAt (d + 1) b 10 [vR 171, vI x1, vI x2] [vI v1] (stt g2) K
      exact aw_iret (by decide +kernel) rfl hG
    · exact hG
  · exact hG

set_option maxHeartbeats 1000000 in
theorem wpX12_whatRead {Γ : Cfg} {l : Launch} {d b : Nat} {g : GG} {K : Ou → HP → Prop} {x1 : Int} (hF : (wr x1 = 6 → Ct Γ l d 0 yX12_weighs mX12_weighs [vR 171] (stt g) (bI (fun v1 g1 => K (.inl (vI v1)) (stt g1)) K)) ∧ (wr x1 = 7 → Ct Γ l d 0 yX12_hears mX12_hears [vR 171] (stt g) (bI (fun v2 g2 => K (.inl (vI v2)) (stt g2)) K)) ∧ ((wr x1 ≠ 6 ∧ wr x1 ≠ 7) → (0 ≤ wr x1 ∧ wr x1 < 30) ∧ (K (.inl (vI (g 179 (wr x1)))) (stt g)))) : Ct Γ l (d + 1) b yX12_whatRead mX12_whatRead [vR 171, vI x1] (stt g) K := by
  refine Ct.enter (L := [vR 171, vI x1]) rfl rfl rfl (by decide +kernel) (by simp [oneSlot]) (Nat.le_of_ble_eq_true rfl) rfl ?_
  refine aw_iload_n (k' := 1) (by decide +kernel) rfl ?_
  refine ax_lsw2 (dflt := 37) (a1 := 6) (o1 := 27) (a2 := 7) (o2 := 32) (len := 27) 28 33 38 (by decide +kernel) (by decide) (by decide) (by decide) (by decide) (fun hc => ?_) (fun hc => ?_) (fun hc => ?_)
  · have hF := hF.1 hc
    show AW Γ l mX12_whatRead (d + 1) b 28 [vR 171, vI x1] [] (stt g) K
    refine aw_aload_n (k' := 0) (by decide +kernel) rfl ?_
    refine aw_callV (y := yX12_weighs) (M2 := mX12_weighs) (as := []) (S := []) (t := 171) (d2 := d) (b2 := 0) (b3 := b) cwX12_weighs mlX12_339 imX12_weighs seX12_weighs (by decide +kernel) rfl (ci := 10) rfl (OB.at (ci := 10) (show shp 171 = (20, 0) by decide +kernel) (by decide)) (Nat.le_refl _) (Nat.le_of_eq (Nat.zero_add _)) rfl rfl (by simp [oneSlot]) (Nat.le_of_ble_eq_true rfl) (Ct.mono hF ?_)
    rintro o h' (⟨v1, g1, rfl, rfl, hG⟩ | ⟨E, g, rfl, rfl, hG⟩)
    · show AW Γ l mX12_whatRead (d + 1) b 32 [vR 171, vI x1] [vI v1] (stt g1) K
      exact aw_iret (by decide +kernel) rfl hG
    · exact hG
  · have hF := hF.2.1 hc
    show AW Γ l mX12_whatRead (d + 1) b 33 [vR 171, vI x1] [] (stt g) K
    refine aw_aload_n (k' := 0) (by decide +kernel) rfl ?_
    refine aw_callV (y := yX12_hears) (M2 := mX12_hears) (as := []) (S := []) (t := 171) (d2 := d) (b2 := 0) (b3 := b) cwX12_hears mlX12_342 imX12_hears seX12_hears (by decide +kernel) rfl (ci := 10) rfl (OB.at (ci := 10) (show shp 171 = (20, 0) by decide +kernel) (by decide)) (Nat.le_refl _) (Nat.le_of_eq (Nat.zero_add _)) rfl rfl (by simp [oneSlot]) (Nat.le_of_ble_eq_true rfl) (Ct.mono hF ?_)
    rintro o h' (⟨v2, g2, rfl, rfl, hG⟩ | ⟨E, g, rfl, rfl, hG⟩)
    · show AW Γ l mX12_whatRead (d + 1) b 37 [vR 171, vI x1] [vI v2] (stt g2) K
      exact aw_iret (by decide +kernel) rfl hG
    · exact hG
  · have hF := hF.2.2 hc
    show AW Γ l mX12_whatRead (d + 1) b 38 [vR 171, vI x1] [] (stt g) K
    refine aw_aload_n (k' := 0) (by decide +kernel) rfl ?_
    refine gfX12_39 rfl (by decide +kernel) (OB.at (ci := 10) (show shp 171 = (20, 0) by decide +kernel) (by decide)) ?_
    refine AW.topR (show RC 171 18 = 179 by decide +kernel) ?_
    refine aw_iload_n (k' := 1) (by decide +kernel) rfl ?_
    refine ax_iald (i := wr x1) (by decide +kernel) (isA_lit (show shp 179 = (0, 30) by decide +kernel) (by decide)) rfl hF.1 ?_
    replace hF := hF.2
    exact aw_iret (by decide +kernel) rfl hF

set_option maxHeartbeats 1000000 in
theorem wpX12_isTold {Γ : Cfg} {l : Launch} {d b : Nat} {g : GG} {K : Ou → HP → Prop} {x1 : Int} {x2 : Int} {x3 : Int} {x4 : Int} (hF : AW Γ l mX12_isTold d b 5 [vR 171, vI x1, vI x2, vI x3, vI x4, vI 299] [] (stt g) K) : Ct Γ l d b yX12_isTold mX12_isTold [vR 171, vI x1, vI x2, vI x3, vI x4] (stt g) K := by
  refine Ct.enter (L := [vR 171, vI x1, vI x2, vI x3, vI x4, vU]) rfl rfl rfl (by decide +kernel) (by simp [oneSlot]) (Nat.le_of_ble_eq_true rfl) rfl ?_
  refine aw_sipush (n := 299) (by decide +kernel) (by decide +kernel) ?_
  refine aw_istore (i := 5) (by decide +kernel) (by decide) ?_
  show AW Γ l mX12_isTold d b 5 [vR 171, vI x1, vI x2, vI x3, vI x4, vI 299] [] (stt g) K
  exact hF
set_option maxHeartbeats 1000000 in
theorem wpX12_isTold_5 {Γ : Cfg} {l : Launch} {d b : Nat} {g : GG} {K : Ou → HP → Prop} {x1 : Int} {x2 : Int} {x3 : Int} {x4 : Int} {y5 : Int} (hF : (wr y5 < 5 → (∀ g1 : GG, g1 = upd2 (upd2 g 172 186 (g 172 4)) 172 187 x1 → (∀ g2 : GG, g2 = upd2 (upd2 g1 172 188 x2) 172 189 x3 → (∀ g3 : GG, g3 = upd2 (upd2 g2 172 190 x4) 172 6 (iMin 60 (((upd2 g2 172 190 x4) 172 6) + 1)) → K (.inl vU) (stt g3))))) ∧ (¬ (wr y5 < 5) → (0 ≤ wr ((186 + y5) - 5) ∧ wr ((186 + y5) - 5) < 2184) ∧ ((0 ≤ wr (186 + y5) ∧ wr (186 + y5) < 2184) ∧ (∀ g4 : GG, g4 = upd2 g 172 (wr (186 + y5)) (g 172 (wr ((186 + y5) - 5))) → AW Γ l mX12_isTold d b 5 [vR 171, vI x1, vI x2, vI x3, vI x4, vI (y5 + (-1))] [] (stt g4) K)))) : AW Γ l mX12_isTold d b 5 [vR 171, vI x1, vI x2, vI x3, vI x4, vI y5] [] (stt g) K := by
  refine aw_iload (i := 5) (by decide +kernel) rfl ?_
  refine aw_iconst (n := 5) (by decide +kernel) ?_
  refine ax_icmp_lt (off := 33) (tgt := 41) (x' := wr y5) (y' := 5) (by decide +kernel) (by decide) rfl (by decide +kernel) (fun hc => ?_) (fun hc => ?_)
  · have hF := hF.1 hc
    refine aw_aload_n (k' := 0) (by decide +kernel) rfl ?_
    refine gfX12_13 rfl (by decide +kernel) (OB.at (ci := 10) (show shp 171 = (20, 0) by decide +kernel) (by decide)) ?_
    refine AW.topR (show RC 171 1 = 172 by decide +kernel) ?_
    refine aw_sipush (n := 186) (by decide +kernel) (by decide +kernel) ?_
    refine aw_aload_n (k' := 0) (by decide +kernel) rfl ?_
    refine gfX12_13 rfl (by decide +kernel) (OB.at (ci := 10) (show shp 171 = (20, 0) by decide +kernel) (by decide)) ?_
    refine AW.topR (show RC 171 1 = 172 by decide +kernel) ?_
    refine aw_iconst (n := 4) (by decide +kernel) ?_
    refine ax_iald (i := 4) (by decide +kernel) (isA_lit (show shp 172 = (0, 2184) by decide +kernel) (by decide)) (by decide +kernel) ⟨by decide, by decide⟩ ?_
    refine ax_iast (i := 186) (by decide +kernel) (isA_lit (show shp 172 = (0, 2184) by decide +kernel) (by decide)) (by decide +kernel) ⟨by decide, by decide⟩ ?_
    show AW Γ l mX12_isTold d b 55 [vR 171, vI x1, vI x2, vI x3, vI x4, vI y5] [] (stt (upd2 g 172 186 (g 172 4))) K
    refine aw_aload_n (k' := 0) (by decide +kernel) rfl ?_
    refine gfX12_13 rfl (by decide +kernel) (OB.at (ci := 10) (show shp 171 = (20, 0) by decide +kernel) (by decide)) ?_
    refine AW.topR (show RC 171 1 = 172 by decide +kernel) ?_
    refine aw_sipush (n := 187) (by decide +kernel) (by decide +kernel) ?_
    refine aw_iload_n (k' := 1) (by decide +kernel) rfl ?_
    refine ax_iast (i := 187) (by decide +kernel) (isA_lit (show shp 172 = (0, 2184) by decide +kernel) (by decide)) (by decide +kernel) ⟨by decide, by decide⟩ ?_
    show AW Γ l mX12_isTold d b 64 [vR 171, vI x1, vI x2, vI x3, vI x4, vI y5] [] (stt (upd2 (upd2 g 172 186 (g 172 4)) 172 187 x1)) K
    show AW Γ l mX12_isTold d b 64 [vR 171, vI x1, vI x2, vI x3, vI x4, vI y5] [] (stt (upd2 (upd2 g 172 186 (g 172 4)) 172 187 x1)) K
    generalize eg1 : upd2 (upd2 g 172 186 (g 172 4)) 172 187 x1 = g1
    replace hF := hF g1 eg1.symm
    refine aw_aload_n (k' := 0) (by decide +kernel) rfl ?_
    refine gfX12_13 rfl (by decide +kernel) (OB.at (ci := 10) (show shp 171 = (20, 0) by decide +kernel) (by decide)) ?_
    refine AW.topR (show RC 171 1 = 172 by decide +kernel) ?_
    refine aw_sipush (n := 188) (by decide +kernel) (by decide +kernel) ?_
    refine aw_iload_n (k' := 2) (by decide +kernel) rfl ?_
    refine ax_iast (i := 188) (by decide +kernel) (isA_lit (show shp 172 = (0, 2184) by decide +kernel) (by decide)) (by decide +kernel) ⟨by decide, by decide⟩ ?_
    show AW Γ l mX12_isTold d b 73 [vR 171, vI x1, vI x2, vI x3, vI x4, vI y5] [] (stt (upd2 g1 172 188 x2)) K
    refine aw_aload_n (k' := 0) (by decide +kernel) rfl ?_
    refine gfX12_13 rfl (by decide +kernel) (OB.at (ci := 10) (show shp 171 = (20, 0) by decide +kernel) (by decide)) ?_
    refine AW.topR (show RC 171 1 = 172 by decide +kernel) ?_
    refine aw_sipush (n := 189) (by decide +kernel) (by decide +kernel) ?_
    refine aw_iload_n (k' := 3) (by decide +kernel) rfl ?_
    refine ax_iast (i := 189) (by decide +kernel) (isA_lit (show shp 172 = (0, 2184) by decide +kernel) (by decide)) (by decide +kernel) ⟨by decide, by decide⟩ ?_
    show AW Γ l mX12_isTold d b 82 [vR 171, vI x1, vI x2, vI x3, vI x4, vI y5] [] (stt (upd2 (upd2 g1 172 188 x2) 172 189 x3)) K
    show AW Γ l mX12_isTold d b 82 [vR 171, vI x1, vI x2, vI x3, vI x4, vI y5] [] (stt (upd2 (upd2 g1 172 188 x2) 172 189 x3)) K
    generalize eg2 : upd2 (upd2 g1 172 188 x2) 172 189 x3 = g2
    replace hF := hF g2 eg2.symm
    refine aw_aload_n (k' := 0) (by decide +kernel) rfl ?_
    refine gfX12_13 rfl (by decide +kernel) (OB.at (ci := 10) (show shp 171 = (20, 0) by decide +kernel) (by decide)) ?_
    refine AW.topR (show RC 171 1 = 172 by decide +kernel) ?_
    refine aw_sipush (n := 190) (by decide +kernel) (by decide +kernel) ?_
    refine aw_iload (i := 4) (by decide +kernel) rfl ?_
    refine ax_iast (i := 190) (by decide +kernel) (isA_lit (show shp 172 = (0, 2184) by decide +kernel) (by decide)) (by decide +kernel) ⟨by decide, by decide⟩ ?_
    show AW Γ l mX12_isTold d b 92 [vR 171, vI x1, vI x2, vI x3, vI x4, vI y5] [] (stt (upd2 g2 172 190 x4)) K
    refine aw_aload_n (k' := 0) (by decide +kernel) rfl ?_
    refine gfX12_13 rfl (by decide +kernel) (OB.at (ci := 10) (show shp 171 = (20, 0) by decide +kernel) (by decide)) ?_
    refine AW.topR (show RC 171 1 = 172 by decide +kernel) ?_
    refine aw_bipush (n := 6) (by decide +kernel) (by decide +kernel) ?_
    refine aw_bipush (n := 60) (by decide +kernel) (by decide +kernel) ?_
    refine aw_aload_n (k' := 0) (by decide +kernel) rfl ?_
    refine gfX12_13 rfl (by decide +kernel) (OB.at (ci := 10) (show shp 171 = (20, 0) by decide +kernel) (by decide)) ?_
    refine AW.topR (show RC 171 1 = 172 by decide +kernel) ?_
    refine aw_bipush (n := 6) (by decide +kernel) (by decide +kernel) ?_
    refine ax_iald (i := 6) (by decide +kernel) (isA_lit (show shp 172 = (0, 2184) by decide +kernel) (by decide)) (by decide +kernel) ⟨by decide, by decide⟩ ?_
    refine aw_iconst (n := 1) (by decide +kernel) ?_
    refine aw_iadd (by decide +kernel) ?_
    refine aw_mmin (by decide +kernel) mlX12_285 stJ9_min_7cf53 cwM_init cwM_min (by simp [oneSlot]) (Nat.le_of_ble_eq_true rfl) ?_
    refine ax_iast (i := 6) (by decide +kernel) (isA_lit (show shp 172 = (0, 2184) by decide +kernel) (by decide)) (by decide +kernel) ⟨by decide, by decide⟩ ?_
    show AW Γ l mX12_isTold d b 113 [vR 171, vI x1, vI x2, vI x3, vI x4, vI y5] [] (stt (upd2 (upd2 g2 172 190 x4) 172 6 (iMin 60 (((upd2 g2 172 190 x4) 172 6) + 1)))) K
    show AW Γ l mX12_isTold d b 113 [vR 171, vI x1, vI x2, vI x3, vI x4, vI y5] [] (stt (upd2 (upd2 g2 172 190 x4) 172 6 (iMin 60 (((upd2 g2 172 190 x4) 172 6) + 1)))) K
    generalize eg3 : upd2 (upd2 g2 172 190 x4) 172 6 (iMin 60 (((upd2 g2 172 190 x4) 172 6) + 1)) = g3
    replace hF := hF g3 eg3.symm
    exact aw_vret (by decide +kernel) rfl hF
  · have hF := hF.2 hc
    refine aw_aload_n (k' := 0) (by decide +kernel) rfl ?_
    refine gfX12_13 rfl (by decide +kernel) (OB.at (ci := 10) (show shp 171 = (20, 0) by decide +kernel) (by decide)) ?_
    refine AW.topR (show RC 171 1 = 172 by decide +kernel) ?_
    refine aw_sipush (n := 186) (by decide +kernel) (by decide +kernel) ?_
    refine aw_iload (i := 5) (by decide +kernel) rfl ?_
    refine aw_iadd (by decide +kernel) ?_
    refine aw_aload_n (k' := 0) (by decide +kernel) rfl ?_
    refine gfX12_13 rfl (by decide +kernel) (OB.at (ci := 10) (show shp 171 = (20, 0) by decide +kernel) (by decide)) ?_
    refine AW.topR (show RC 171 1 = 172 by decide +kernel) ?_
    refine aw_sipush (n := 186) (by decide +kernel) (by decide +kernel) ?_
    refine aw_iload (i := 5) (by decide +kernel) rfl ?_
    refine aw_iadd (by decide +kernel) ?_
    refine aw_iconst (n := 5) (by decide +kernel) ?_
    refine aw_isub (by decide +kernel) ?_
    refine ax_iald (i := wr ((186 + y5) - 5)) (by decide +kernel) (isA_lit (show shp 172 = (0, 2184) by decide +kernel) (by decide)) rfl hF.1 ?_
    replace hF := hF.2
    refine ax_iast (i := wr (186 + y5)) (by decide +kernel) (isA_lit (show shp 172 = (0, 2184) by decide +kernel) (by decide)) rfl hF.1 ?_
    show AW Γ l mX12_isTold d b 35 [vR 171, vI x1, vI x2, vI x3, vI x4, vI y5] [] (stt (upd2 g 172 (wr (186 + y5)) (g 172 (wr ((186 + y5) - 5))))) K
    replace hF := hF.2
    show AW Γ l mX12_isTold d b 35 [vR 171, vI x1, vI x2, vI x3, vI x4, vI y5] [] (stt (upd2 g 172 (wr (186 + y5)) (g 172 (wr ((186 + y5) - 5))))) K
    generalize eg4 : upd2 g 172 (wr (186 + y5)) (g 172 (wr ((186 + y5) - 5))) = g4
    replace hF := hF g4 eg4.symm
    refine aw_iinc (i := 5) (n := -1) (by decide +kernel) rfl (by decide) ?_
    show AW Γ l mX12_isTold d b 38 [vR 171, vI x1, vI x2, vI x3, vI x4, vI (y5 + (-1))] [] (stt g4) K
    refine aw_goto (off := -33) (tgt := 5) (by decide +kernel) (by decide) ?_
    exact hF

set_option maxHeartbeats 1000000 in
theorem wpX12_isHeld {Γ : Cfg} {l : Launch} {d b : Nat} {g : GG} {K : Ou → HP → Prop} {x1 : Int} {x2 : Int} {x3 : Int} (hF : (0 ≤ wr (12 + 29 * x1 + 3) ∧ wr (12 + 29 * x1 + 3) < 2184) ∧ (∀ g1 : GG, g1 = upd2 g 172 (wr (12 + 29 * x1 + 3)) 2 → (0 ≤ wr (12 + 29 * x1 + 4) ∧ wr (12 + 29 * x1 + 4) < 2184) ∧ (∀ g2 : GG, g2 = upd2 g1 172 (wr (12 + 29 * x1 + 4)) x2 → Ct Γ l d 0 yX12_weightAt mX12_weightAt [vR 171, vI x1, vI x2] (stt g2) (bI (fun v1 g3 => Ct Γ l d 0 yX12_hears mX12_hears [vR 171] (stt g3) (bI (fun v2 g4 => Ct Γ l d 0 yX12_isTold mX12_isTold [vR 171, vI x1, vI x3, vI x2, vI v1] (stt (upd2 g4 171 24 v2)) (bV (fun g5 => K (.inl vU) (stt g5)) K)) K)) K)))) : Ct Γ l (d + 1) b yX12_isHeld mX12_isHeld [vR 171, vI x1, vI x2, vI x3] (stt g) K := by
  refine Ct.enter (L := [vR 171, vI x1, vI x2, vI x3, vU]) rfl rfl rfl (by decide +kernel) (by simp [oneSlot]) (Nat.le_of_ble_eq_true rfl) rfl ?_
  refine aw_aload_n (k' := 0) (by decide +kernel) rfl ?_
  refine gfX12_13 rfl (by decide +kernel) (OB.at (ci := 10) (show shp 171 = (20, 0) by decide +kernel) (by decide)) ?_
  refine AW.topR (show RC 171 1 = 172 by decide +kernel) ?_
  refine aw_iload_n (k' := 1) (by decide +kernel) rfl ?_
  refine aw_iconst (n := 3) (by decide +kernel) ?_
  refine aw_callS (y := yX12_personAt) (M2 := mX12_personAt) (as := [vI x1, vI 3]) (S := [vR 172]) (d2 := d) (b2 := 0) (b3 := b) cwX12_personAt mlX12_80 stX12_personAt (by decide +kernel) rfl (Nat.le_refl _) (Nat.le_of_eq (Nat.zero_add _)) rfl rfl (by simp [oneSlot]) (Nat.le_of_ble_eq_true rfl) (c_personAt ?_)
  show AW Γ l mX12_isHeld (d + 1) b 9 [vR 171, vI x1, vI x2, vI x3, vU] [vI (12 + 29 * x1 + 3), vR 172] (stt g) K
  refine aw_iconst (n := 2) (by decide +kernel) ?_
  refine ax_iast (i := wr (12 + 29 * x1 + 3)) (by decide +kernel) (isA_lit (show shp 172 = (0, 2184) by decide +kernel) (by decide)) rfl hF.1 ?_
  show AW Γ l mX12_isHeld (d + 1) b 11 [vR 171, vI x1, vI x2, vI x3, vU] [] (stt (upd2 g 172 (wr (12 + 29 * x1 + 3)) 2)) K
  replace hF := hF.2
  show AW Γ l mX12_isHeld (d + 1) b 11 [vR 171, vI x1, vI x2, vI x3, vU] [] (stt (upd2 g 172 (wr (12 + 29 * x1 + 3)) 2)) K
  generalize eg1 : upd2 g 172 (wr (12 + 29 * x1 + 3)) 2 = g1
  replace hF := hF g1 eg1.symm
  refine aw_aload_n (k' := 0) (by decide +kernel) rfl ?_
  refine gfX12_13 rfl (by decide +kernel) (OB.at (ci := 10) (show shp 171 = (20, 0) by decide +kernel) (by decide)) ?_
  refine AW.topR (show RC 171 1 = 172 by decide +kernel) ?_
  refine aw_iload_n (k' := 1) (by decide +kernel) rfl ?_
  refine aw_iconst (n := 4) (by decide +kernel) ?_
  refine aw_callS (y := yX12_personAt) (M2 := mX12_personAt) (as := [vI x1, vI 4]) (S := [vR 172]) (d2 := d) (b2 := 0) (b3 := b) cwX12_personAt mlX12_80 stX12_personAt (by decide +kernel) rfl (Nat.le_refl _) (Nat.le_of_eq (Nat.zero_add _)) rfl rfl (by simp [oneSlot]) (Nat.le_of_ble_eq_true rfl) (c_personAt ?_)
  show AW Γ l mX12_isHeld (d + 1) b 20 [vR 171, vI x1, vI x2, vI x3, vU] [vI (12 + 29 * x1 + 4), vR 172] (stt g1) K
  refine aw_iload_n (k' := 2) (by decide +kernel) rfl ?_
  refine ax_iast (i := wr (12 + 29 * x1 + 4)) (by decide +kernel) (isA_lit (show shp 172 = (0, 2184) by decide +kernel) (by decide)) rfl hF.1 ?_
  show AW Γ l mX12_isHeld (d + 1) b 22 [vR 171, vI x1, vI x2, vI x3, vU] [] (stt (upd2 g1 172 (wr (12 + 29 * x1 + 4)) x2)) K
  replace hF := hF.2
  show AW Γ l mX12_isHeld (d + 1) b 22 [vR 171, vI x1, vI x2, vI x3, vU] [] (stt (upd2 g1 172 (wr (12 + 29 * x1 + 4)) x2)) K
  generalize eg2 : upd2 g1 172 (wr (12 + 29 * x1 + 4)) x2 = g2
  replace hF := hF g2 eg2.symm
  refine aw_aload_n (k' := 0) (by decide +kernel) rfl ?_
  refine aw_iload_n (k' := 1) (by decide +kernel) rfl ?_
  refine aw_iload_n (k' := 2) (by decide +kernel) rfl ?_
  refine aw_callV (y := yX12_weightAt) (M2 := mX12_weightAt) (as := [vI x1, vI x2]) (S := []) (t := 171) (d2 := d) (b2 := 0) (b3 := b) cwX12_weightAt mlX12_345 imX12_weightAt seX12_weightAt (by decide +kernel) rfl (ci := 10) rfl (OB.at (ci := 10) (show shp 171 = (20, 0) by decide +kernel) (by decide)) (Nat.le_refl _) (Nat.le_of_eq (Nat.zero_add _)) rfl rfl (by simp [oneSlot]) (Nat.le_of_ble_eq_true rfl) (Ct.mono hF ?_)
  rintro o h' (⟨v1, g3, rfl, rfl, hG⟩ | ⟨E, g, rfl, rfl, hG⟩)
  · show AW Γ l mX12_isHeld (d + 1) b 28 [vR 171, vI x1, vI x2, vI x3, vU] [vI v1] (stt g3) K
    refine aw_istore (i := 4) (by decide +kernel) (by decide) ?_
    show AW Γ l mX12_isHeld (d + 1) b 30 [vR 171, vI x1, vI x2, vI x3, vI v1] [] (stt g3) K
    refine aw_aload_n (k' := 0) (by decide +kernel) rfl ?_
    refine aw_aload_n (k' := 0) (by decide +kernel) rfl ?_
    refine aw_callV (y := yX12_hears) (M2 := mX12_hears) (as := []) (S := [vR 171]) (t := 171) (d2 := d) (b2 := 0) (b3 := b) cwX12_hears mlX12_342 imX12_hears seX12_hears (by decide +kernel) rfl (ci := 10) rfl (OB.at (ci := 10) (show shp 171 = (20, 0) by decide +kernel) (by decide)) (Nat.le_refl _) (Nat.le_of_eq (Nat.zero_add _)) rfl rfl (by simp [oneSlot]) (Nat.le_of_ble_eq_true rfl) (Ct.mono hG ?_)
    rintro o h' (⟨v2, g4, rfl, rfl, hG⟩ | ⟨E, g, rfl, rfl, hG⟩)
    · show AW Γ l mX12_isHeld (d + 1) b 35 [vR 171, vI x1, vI x2, vI x3, vI v1] [vI v2, vR 171] (stt g4) K
      refine pfX12_348 rfl (by decide +kernel) (OB.at (ci := 10) (show shp 171 = (20, 0) by decide +kernel) (by decide)) ?_
      show AW Γ l mX12_isHeld (d + 1) b 38 [vR 171, vI x1, vI x2, vI x3, vI v1] [] (stt (upd2 g4 171 24 v2)) K
      refine aw_aload_n (k' := 0) (by decide +kernel) rfl ?_
      refine aw_iload_n (k' := 1) (by decide +kernel) rfl ?_
      refine aw_iload_n (k' := 3) (by decide +kernel) rfl ?_
      refine aw_iload_n (k' := 2) (by decide +kernel) rfl ?_
      refine aw_iload (i := 4) (by decide +kernel) rfl ?_
      refine aw_callV (y := yX12_isTold) (M2 := mX12_isTold) (as := [vI x1, vI x3, vI x2, vI v1]) (S := []) (t := 171) (d2 := d) (b2 := 0) (b3 := b) cwX12_isTold mlX12_351 imX12_isTold seX12_isTold (by decide +kernel) rfl (ci := 10) rfl (OB.at (ci := 10) (show shp 171 = (20, 0) by decide +kernel) (by decide)) (Nat.le_refl _) (Nat.le_of_eq (Nat.zero_add _)) rfl rfl (by simp [oneSlot]) (Nat.le_of_ble_eq_true rfl) (Ct.mono hG ?_)
      rintro o h' (⟨g5, rfl, rfl, hG⟩ | ⟨E, g, rfl, rfl, hG⟩)
      · show AW Γ l mX12_isHeld (d + 1) b 47 [vR 171, vI x1, vI x2, vI x3, vI v1] [] (stt g5) K
        exact aw_vret (by decide +kernel) rfl hG
      · exact hG
    · exact hG
  · exact hG

set_option maxHeartbeats 1000000 in
theorem wpX12_isBroken {Γ : Cfg} {l : Launch} {d b : Nat} {g : GG} {K : Ou → HP → Prop} {x1 : Int} {x2 : Int} (hF : (okP x1 4) ∧ (Ct Γ l (d + 1) 0 yX12_allIn mX12_allIn [vR 171, vI 1] (stt g) (bI (fun v1 g1 => (wr (iAnd v1 (iXor (iShl 1 x1) (-1))) = 0 → AW Γ l mX12_isBroken (d + 2) b 26 [vR 171, vI x1, vI x2, vI (ofP g x1 4), vU, vU] [vI 0] (stt g1) K) ∧ (¬ (wr (iAnd v1 (iXor (iShl 1 x1) (-1))) = 0) → AW Γ l mX12_isBroken (d + 2) b 26 [vR 171, vI x1, vI x2, vI (ofP g x1 4), vU, vU] [vI 1] (stt g1) K)) K))) : Ct Γ l (d + 2) b yX12_isBroken mX12_isBroken [vR 171, vI x1, vI x2] (stt g) K := by
  refine Ct.enter (L := [vR 171, vI x1, vI x2, vU, vU, vU]) rfl rfl rfl (by decide +kernel) (by simp [oneSlot]) (Nat.le_of_ble_eq_true rfl) rfl ?_
  refine aw_aload_n (k' := 0) (by decide +kernel) rfl ?_
  refine aw_iload_n (k' := 1) (by decide +kernel) rfl ?_
  refine aw_iconst (n := 4) (by decide +kernel) ?_
  refine aw_callV (y := yX12_of) (M2 := mX12_of) (as := [vI x1, vI 4]) (S := []) (t := 171) (d2 := (d + 1)) (b2 := 0) (b3 := b) cwX12_of mlX12_84 imX12_of seX12_of (by decide +kernel) rfl (ci := 10) rfl (OB.at (ci := 10) (show shp 171 = (20, 0) by decide +kernel) (by decide)) (Nat.le_refl _) (Nat.le_of_eq (Nat.zero_add _)) rfl rfl (by simp [oneSlot]) (Nat.le_of_ble_eq_true rfl) (c_of hF.1 ?_)
  show AW Γ l mX12_isBroken (d + 2) b 6 [vR 171, vI x1, vI x2, vU, vU, vU] [vI (ofP g x1 4)] (stt g) K
  replace hF := hF.2
  refine aw_istore_n (k' := 3) (by decide +kernel) (by decide) ?_
  show AW Γ l mX12_isBroken (d + 2) b 7 [vR 171, vI x1, vI x2, vI (ofP g x1 4), vU, vU] [] (stt g) K
  refine aw_aload_n (k' := 0) (by decide +kernel) rfl ?_
  refine aw_iconst (n := 1) (by decide +kernel) ?_
  refine aw_callV (y := yX12_allIn) (M2 := mX12_allIn) (as := [vI 1]) (S := []) (t := 171) (d2 := (d + 1)) (b2 := 0) (b3 := b) cwX12_allIn mlX12_355 imX12_allIn seX12_allIn (by decide +kernel) rfl (ci := 10) rfl (OB.at (ci := 10) (show shp 171 = (20, 0) by decide +kernel) (by decide)) (Nat.le_refl _) (Nat.le_of_eq (Nat.zero_add _)) rfl rfl (by simp [oneSlot]) (Nat.le_of_ble_eq_true rfl) (Ct.mono hF ?_)
  rintro o h' (⟨v1, g1, rfl, rfl, hG⟩ | ⟨E, g, rfl, rfl, hG⟩)
  · show AW Γ l mX12_isBroken (d + 2) b 12 [vR 171, vI x1, vI x2, vI (ofP g x1 4), vU, vU] [vI v1] (stt g1) K
    refine aw_iconst (n := 1) (by decide +kernel) ?_
    refine aw_iload_n (k' := 1) (by decide +kernel) rfl ?_
    refine aw_ishl (by decide +kernel) ?_
    refine aw_iconst (n := -1) (by decide +kernel) ?_
    refine aw_ixor (by decide +kernel) ?_
    refine aw_iand (by decide +kernel) ?_
    refine ax_if_eq (off := 7) (tgt := 25) (x' := wr (iAnd v1 (iXor (iShl 1 x1) (-1)))) (by decide +kernel) (by decide) rfl (fun hc => ?_) (fun hc => ?_)
    · have hG := hG.1 hc
      refine aw_iconst (n := 0) (by decide +kernel) ?_
      exact hG
    · have hG := hG.2 hc
      refine aw_iconst (n := 1) (by decide +kernel) ?_
      refine aw_goto (off := 4) (tgt := 26) (by decide +kernel) (by decide) ?_
      exact hG
  · exact hG
set_option maxHeartbeats 1000000 in
theorem wpX12_isBroken_26 {Γ : Cfg} {l : Launch} {d b : Nat} {g : GG} {K : Ou → HP → Prop} {x1 : Int} {x2 : Int} {y3 : Int} {s0 : Int} (hF : (¬ wr x2 = 1 → (¬ wr x2 = 2 → (¬ wr x2 = 3 → (¬ wr x2 = 4 → Ct Γ l (d + 1) 0 yX12_isHeld mX12_isHeld [vR 171, vI x1, vI y3, vI x2] (stt g) (bV (fun g1 => K (.inl (vI y3)) (stt g1)) K)) ∧ (¬ (¬ wr x2 = 4) → (wr s0 = 0 → Ct Γ l (d + 1) 0 yX12_isHeld mX12_isHeld [vR 171, vI x1, vI y3, vI x2] (stt g) (bV (fun g2 => K (.inl (vI y3)) (stt g2)) K)) ∧ (¬ (wr s0 = 0) → Ct Γ l (d + 1) 0 yX12_isHeld mX12_isHeld [vR 171, vI x1, vI 0, vI x2] (stt g) (bV (fun g3 => K (.inl (vI 0)) (stt g3)) K)))) ∧ (¬ (¬ wr x2 = 3) → Ct Γ l (d + 1) 0 yX12_isHeld mX12_isHeld [vR 171, vI x1, vI (iMax 0 (y3 - 2)), vI x2] (stt g) (bV (fun g4 => K (.inl (vI (iMax 0 (y3 - 2)))) (stt g4)) K))) ∧ (¬ (¬ wr x2 = 2) → Ct Γ l (d + 1) 0 yX12_isHeld mX12_isHeld [vR 171, vI x1, vI (iMax 0 (y3 - 1)), vI x2] (stt g) (bV (fun g5 => K (.inl (vI (iMax 0 (y3 - 1)))) (stt g5)) K))) ∧ (¬ (¬ wr x2 = 1) → Ct Γ l (d + 1) 0 yX12_weightAt mX12_weightAt [vR 171, vI x1, vI y3] (stt g) (bI (fun v1 g6 => Ct Γ l (d + 1) 0 yX12_isTold mX12_isTold [vR 171, vI x1, vI 1, vI y3, vI v1] (stt g6) (bV (fun g7 => K (.inl (vI (-1))) (stt g7)) K)) K))) : AW Γ l mX12_isBroken (d + 2) b 26 [vR 171, vI x1, vI x2, vI y3, vU, vU] [vI s0] (stt g) K := by
  refine aw_istore (i := 4) (by decide +kernel) (by decide) ?_
  show AW Γ l mX12_isBroken (d + 2) b 28 [vR 171, vI x1, vI x2, vI y3, vI s0, vU] [] (stt g) K
  refine aw_iload_n (k' := 2) (by decide +kernel) rfl ?_
  refine aw_iconst (n := 1) (by decide +kernel) ?_
  refine ax_icmp_ne (off := 18) (tgt := 48) (x' := wr x2) (y' := 1) (by decide +kernel) (by decide) rfl (by decide +kernel) (fun hc => ?_) (fun hc => ?_)
  · have hF := hF.1 hc
    refine aw_iload_n (k' := 2) (by decide +kernel) rfl ?_
    refine aw_iconst (n := 2) (by decide +kernel) ?_
    refine ax_icmp_ne (off := 13) (tgt := 63) (x' := wr x2) (y' := 2) (by decide +kernel) (by decide) rfl (by decide +kernel) (fun hc => ?_) (fun hc => ?_)
    · have hF := hF.1 hc
      refine aw_iload_n (k' := 2) (by decide +kernel) rfl ?_
      refine aw_iconst (n := 3) (by decide +kernel) ?_
      refine ax_icmp_ne (off := 13) (tgt := 78) (x' := wr x2) (y' := 3) (by decide +kernel) (by decide) rfl (by decide +kernel) (fun hc => ?_) (fun hc => ?_)
      · have hF := hF.1 hc
        refine aw_iload_n (k' := 2) (by decide +kernel) rfl ?_
        refine aw_iconst (n := 4) (by decide +kernel) ?_
        refine ax_icmp_ne (off := 12) (tgt := 92) (x' := wr x2) (y' := 4) (by decide +kernel) (by decide) rfl (by decide +kernel) (fun hc => ?_) (fun hc => ?_)
        · have hF := hF.1 hc
          refine aw_iload_n (k' := 3) (by decide +kernel) rfl ?_
          refine aw_istore (i := 5) (by decide +kernel) (by decide) ?_
          show AW Γ l mX12_isBroken (d + 2) b 95 [vR 171, vI x1, vI x2, vI y3, vI s0, vI y3] [] (stt g) K
          refine aw_aload_n (k' := 0) (by decide +kernel) rfl ?_
          refine aw_iload_n (k' := 1) (by decide +kernel) rfl ?_
          refine aw_iload (i := 5) (by decide +kernel) rfl ?_
          refine aw_iload_n (k' := 2) (by decide +kernel) rfl ?_
          refine aw_callV (y := yX12_isHeld) (M2 := mX12_isHeld) (as := [vI x1, vI y3, vI x2]) (S := []) (t := 171) (d2 := (d + 1)) (b2 := 0) (b3 := b) cwX12_isHeld mlX12_358 imX12_isHeld seX12_isHeld (by decide +kernel) rfl (ci := 10) rfl (OB.at (ci := 10) (show shp 171 = (20, 0) by decide +kernel) (by decide)) (Nat.le_refl _) (Nat.le_of_eq (Nat.zero_add _)) rfl rfl (by simp [oneSlot]) (Nat.le_of_ble_eq_true rfl) (Ct.mono hF ?_)
          rintro o h' (⟨g1, rfl, rfl, hG⟩ | ⟨E, g, rfl, rfl, hG⟩)
          · show AW Γ l mX12_isBroken (d + 2) b 103 [vR 171, vI x1, vI x2, vI y3, vI s0, vI y3] [] (stt g1) K
            refine aw_iload (i := 5) (by decide +kernel) rfl ?_
            exact aw_iret (by decide +kernel) rfl hG
          · exact hG
        · have hF := hF.2 hc
          refine aw_iload (i := 4) (by decide +kernel) rfl ?_
          refine ax_if_eq (off := 7) (tgt := 92) (x' := wr s0) (by decide +kernel) (by decide) rfl (fun hc => ?_) (fun hc => ?_)
          · have hF := hF.1 hc
            refine aw_iload_n (k' := 3) (by decide +kernel) rfl ?_
            refine aw_istore (i := 5) (by decide +kernel) (by decide) ?_
            show AW Γ l mX12_isBroken (d + 2) b 95 [vR 171, vI x1, vI x2, vI y3, vI s0, vI y3] [] (stt g) K
            refine aw_aload_n (k' := 0) (by decide +kernel) rfl ?_
            refine aw_iload_n (k' := 1) (by decide +kernel) rfl ?_
            refine aw_iload (i := 5) (by decide +kernel) rfl ?_
            refine aw_iload_n (k' := 2) (by decide +kernel) rfl ?_
            refine aw_callV (y := yX12_isHeld) (M2 := mX12_isHeld) (as := [vI x1, vI y3, vI x2]) (S := []) (t := 171) (d2 := (d + 1)) (b2 := 0) (b3 := b) cwX12_isHeld mlX12_358 imX12_isHeld seX12_isHeld (by decide +kernel) rfl (ci := 10) rfl (OB.at (ci := 10) (show shp 171 = (20, 0) by decide +kernel) (by decide)) (Nat.le_refl _) (Nat.le_of_eq (Nat.zero_add _)) rfl rfl (by simp [oneSlot]) (Nat.le_of_ble_eq_true rfl) (Ct.mono hF ?_)
            rintro o h' (⟨g2, rfl, rfl, hG⟩ | ⟨E, g, rfl, rfl, hG⟩)
            · show AW Γ l mX12_isBroken (d + 2) b 103 [vR 171, vI x1, vI x2, vI y3, vI s0, vI y3] [] (stt g2) K
              refine aw_iload (i := 5) (by decide +kernel) rfl ?_
              exact aw_iret (by decide +kernel) rfl hG
            · exact hG
          · have hF := hF.2 hc
            refine aw_iconst (n := 0) (by decide +kernel) ?_
            refine aw_goto (off := 4) (tgt := 93) (by decide +kernel) (by decide) ?_
            refine aw_istore (i := 5) (by decide +kernel) (by decide) ?_
            show AW Γ l mX12_isBroken (d + 2) b 95 [vR 171, vI x1, vI x2, vI y3, vI s0, vI 0] [] (stt g) K
            refine aw_aload_n (k' := 0) (by decide +kernel) rfl ?_
            refine aw_iload_n (k' := 1) (by decide +kernel) rfl ?_
            refine aw_iload (i := 5) (by decide +kernel) rfl ?_
            refine aw_iload_n (k' := 2) (by decide +kernel) rfl ?_
            refine aw_callV (y := yX12_isHeld) (M2 := mX12_isHeld) (as := [vI x1, vI 0, vI x2]) (S := []) (t := 171) (d2 := (d + 1)) (b2 := 0) (b3 := b) cwX12_isHeld mlX12_358 imX12_isHeld seX12_isHeld (by decide +kernel) rfl (ci := 10) rfl (OB.at (ci := 10) (show shp 171 = (20, 0) by decide +kernel) (by decide)) (Nat.le_refl _) (Nat.le_of_eq (Nat.zero_add _)) rfl rfl (by simp [oneSlot]) (Nat.le_of_ble_eq_true rfl) (Ct.mono hF ?_)
            rintro o h' (⟨g3, rfl, rfl, hG⟩ | ⟨E, g, rfl, rfl, hG⟩)
            · show AW Γ l mX12_isBroken (d + 2) b 103 [vR 171, vI x1, vI x2, vI y3, vI s0, vI 0] [] (stt g3) K
              refine aw_iload (i := 5) (by decide +kernel) rfl ?_
              exact aw_iret (by decide +kernel) rfl hG
            · exact hG
      · have hF := hF.2 hc
        refine aw_iconst (n := 0) (by decide +kernel) ?_
        refine aw_iload_n (k' := 3) (by decide +kernel) rfl ?_
        refine aw_iconst (n := 2) (by decide +kernel) ?_
        refine aw_isub (by decide +kernel) ?_
        refine aw_mmax (by decide +kernel) mlX12_327 stJ9_max_7cf53 cwM_init cwM_max (by simp [oneSlot]) (Nat.le_of_ble_eq_true rfl) ?_
        refine aw_goto (off := 18) (tgt := 93) (by decide +kernel) (by decide) ?_
        refine aw_istore (i := 5) (by decide +kernel) (by decide) ?_
        show AW Γ l mX12_isBroken (d + 2) b 95 [vR 171, vI x1, vI x2, vI y3, vI s0, vI (iMax 0 (y3 - 2))] [] (stt g) K
        refine aw_aload_n (k' := 0) (by decide +kernel) rfl ?_
        refine aw_iload_n (k' := 1) (by decide +kernel) rfl ?_
        refine aw_iload (i := 5) (by decide +kernel) rfl ?_
        refine aw_iload_n (k' := 2) (by decide +kernel) rfl ?_
        refine aw_callV (y := yX12_isHeld) (M2 := mX12_isHeld) (as := [vI x1, vI (iMax 0 (y3 - 2)), vI x2]) (S := []) (t := 171) (d2 := (d + 1)) (b2 := 0) (b3 := b) cwX12_isHeld mlX12_358 imX12_isHeld seX12_isHeld (by decide +kernel) rfl (ci := 10) rfl (OB.at (ci := 10) (show shp 171 = (20, 0) by decide +kernel) (by decide)) (Nat.le_refl _) (Nat.le_of_eq (Nat.zero_add _)) rfl rfl (by simp [oneSlot]) (Nat.le_of_ble_eq_true rfl) (Ct.mono hF ?_)
        rintro o h' (⟨g4, rfl, rfl, hG⟩ | ⟨E, g, rfl, rfl, hG⟩)
        · show AW Γ l mX12_isBroken (d + 2) b 103 [vR 171, vI x1, vI x2, vI y3, vI s0, vI (iMax 0 (y3 - 2))] [] (stt g4) K
          refine aw_iload (i := 5) (by decide +kernel) rfl ?_
          exact aw_iret (by decide +kernel) rfl hG
        · exact hG
    · have hF := hF.2 hc
      refine aw_iconst (n := 0) (by decide +kernel) ?_
      refine aw_iload_n (k' := 3) (by decide +kernel) rfl ?_
      refine aw_iconst (n := 1) (by decide +kernel) ?_
      refine aw_isub (by decide +kernel) ?_
      refine aw_mmax (by decide +kernel) mlX12_327 stJ9_max_7cf53 cwM_init cwM_max (by simp [oneSlot]) (Nat.le_of_ble_eq_true rfl) ?_
      refine aw_goto (off := 33) (tgt := 93) (by decide +kernel) (by decide) ?_
      refine aw_istore (i := 5) (by decide +kernel) (by decide) ?_
      show AW Γ l mX12_isBroken (d + 2) b 95 [vR 171, vI x1, vI x2, vI y3, vI s0, vI (iMax 0 (y3 - 1))] [] (stt g) K
      refine aw_aload_n (k' := 0) (by decide +kernel) rfl ?_
      refine aw_iload_n (k' := 1) (by decide +kernel) rfl ?_
      refine aw_iload (i := 5) (by decide +kernel) rfl ?_
      refine aw_iload_n (k' := 2) (by decide +kernel) rfl ?_
      refine aw_callV (y := yX12_isHeld) (M2 := mX12_isHeld) (as := [vI x1, vI (iMax 0 (y3 - 1)), vI x2]) (S := []) (t := 171) (d2 := (d + 1)) (b2 := 0) (b3 := b) cwX12_isHeld mlX12_358 imX12_isHeld seX12_isHeld (by decide +kernel) rfl (ci := 10) rfl (OB.at (ci := 10) (show shp 171 = (20, 0) by decide +kernel) (by decide)) (Nat.le_refl _) (Nat.le_of_eq (Nat.zero_add _)) rfl rfl (by simp [oneSlot]) (Nat.le_of_ble_eq_true rfl) (Ct.mono hF ?_)
      rintro o h' (⟨g5, rfl, rfl, hG⟩ | ⟨E, g, rfl, rfl, hG⟩)
      · show AW Γ l mX12_isBroken (d + 2) b 103 [vR 171, vI x1, vI x2, vI y3, vI s0, vI (iMax 0 (y3 - 1))] [] (stt g5) K
        refine aw_iload (i := 5) (by decide +kernel) rfl ?_
        exact aw_iret (by decide +kernel) rfl hG
      · exact hG
  · have hF := hF.2 hc
    refine aw_aload_n (k' := 0) (by decide +kernel) rfl ?_
    refine aw_iload_n (k' := 1) (by decide +kernel) rfl ?_
    refine aw_iconst (n := 1) (by decide +kernel) ?_
    refine aw_iload_n (k' := 3) (by decide +kernel) rfl ?_
    refine aw_aload_n (k' := 0) (by decide +kernel) rfl ?_
    refine aw_iload_n (k' := 1) (by decide +kernel) rfl ?_
    refine aw_iload_n (k' := 3) (by decide +kernel) rfl ?_
    refine aw_callV (y := yX12_weightAt) (M2 := mX12_weightAt) (as := [vI x1, vI y3]) (S := [vI y3, vI 1, vI x1, vR 171]) (t := 171) (d2 := (d + 1)) (b2 := 0) (b3 := b) cwX12_weightAt mlX12_345 imX12_weightAt seX12_weightAt (by decide +kernel) rfl (ci := 10) rfl (OB.at (ci := 10) (show shp 171 = (20, 0) by decide +kernel) (by decide)) (Nat.le_refl _) (Nat.le_of_eq (Nat.zero_add _)) rfl rfl (by simp [oneSlot]) (Nat.le_of_ble_eq_true rfl) (Ct.mono hF ?_)
    rintro o h' (⟨v1, g6, rfl, rfl, hG⟩ | ⟨E, g, rfl, rfl, hG⟩)
    · show AW Γ l mX12_isBroken (d + 2) b 43 [vR 171, vI x1, vI x2, vI y3, vI s0, vU] [vI v1, vI y3, vI 1, vI x1, vR 171] (stt g6) K
      refine aw_callV (y := yX12_isTold) (M2 := mX12_isTold) (as := [vI x1, vI 1, vI y3, vI v1]) (S := []) (t := 171) (d2 := (d + 1)) (b2 := 0) (b3 := b) cwX12_isTold mlX12_351 imX12_isTold seX12_isTold (by decide +kernel) rfl (ci := 10) rfl (OB.at (ci := 10) (show shp 171 = (20, 0) by decide +kernel) (by decide)) (Nat.le_refl _) (Nat.le_of_eq (Nat.zero_add _)) rfl rfl (by simp [oneSlot]) (Nat.le_of_ble_eq_true rfl) (Ct.mono hG ?_)
      rintro o h' (⟨g7, rfl, rfl, hG⟩ | ⟨E, g, rfl, rfl, hG⟩)
      · show AW Γ l mX12_isBroken (d + 2) b 46 [vR 171, vI x1, vI x2, vI y3, vI s0, vU] [] (stt g7) K
        refine aw_iconst (n := -1) (by decide +kernel) ?_
        exact aw_iret (by decide +kernel) rfl hG
      · exact hG
    · exact hG

set_option maxHeartbeats 1000000 in
theorem wpX12_chanceOf {Γ : Cfg} {l : Launch} {d b : Nat} {g : GG} {K : Ou → HP → Prop} {x0 : Int} {x1 : Int} (hF : K (.inl (vI (iMax 0 (x0 - (10 * x1))))) (stt g)) : Ct Γ l d b yX12_chanceOf mX12_chanceOf [vI x0, vI x1] (stt g) K := by
  refine Ct.enter (L := [vI x0, vI x1]) rfl rfl rfl (by decide +kernel) (by simp [oneSlot]) (Nat.le_of_ble_eq_true rfl) rfl ?_
  refine aw_iconst (n := 0) (by decide +kernel) ?_
  refine aw_iload_n (k' := 0) (by decide +kernel) rfl ?_
  refine aw_bipush (n := 10) (by decide +kernel) (by decide +kernel) ?_
  refine aw_iload_n (k' := 1) (by decide +kernel) rfl ?_
  refine aw_imul (by decide +kernel) ?_
  refine aw_isub (by decide +kernel) ?_
  refine aw_mmax (by decide +kernel) mlX12_327 stJ9_max_7cf53 cwM_init cwM_max (by simp [oneSlot]) (Nat.le_of_ble_eq_true rfl) ?_
  exact aw_iret (by decide +kernel) rfl hF

set_option maxHeartbeats 1000000 in
theorem wpX12_speaksOn {Γ : Cfg} {l : Launch} {d b : Nat} {g : GG} {K : Ou → HP → Prop} {x1 : Int} (hF : Ct Γ l (d + 1) 0 yX12_drawn mX12_drawn [vR 171, vI 100] (stt g) (bI (fun v1 g1 => (okP x1 2) ∧ (Ct Γ l (d + 1) 0 yX12_chanceOf mX12_chanceOf [vI (g1 172 3), vI (ofP g1 x1 2)] (stt g1) (bI (fun v2 g2 => (wr v2 ≤ wr v1 → AW Γ l mX12_speaksOn (d + 2) b 35 [vR 171, vI x1, vU] [] (stt g2) K) ∧ (¬ (wr v2 ≤ wr v1) → Ct Γ l (d + 1) 0 yX12_drawn mX12_drawn [vR 171, vI 5] (stt g2) (bI (fun v3 g3 => Ct Γ l (d + 1) 0 yX12_isBroken mX12_isBroken [vR 171, vI x1, vI v3] (stt g3) (bI (fun v4 g4 => AW Γ l mX12_speaksOn (d + 2) b 35 [vR 171, vI x1, vU] [] (stt g4) K) K)) K))) K))) K)) : Ct Γ l (d + 2) b yX12_speaksOn mX12_speaksOn [vR 171, vI x1] (stt g) K := by
  refine Ct.enter (L := [vR 171, vI x1, vU]) rfl rfl rfl (by decide +kernel) (by simp [oneSlot]) (Nat.le_of_ble_eq_true rfl) rfl ?_
  refine aw_aload_n (k' := 0) (by decide +kernel) rfl ?_
  refine aw_bipush (n := 100) (by decide +kernel) (by decide +kernel) ?_
  refine aw_callV (y := yX12_drawn) (M2 := mX12_drawn) (as := [vI 100]) (S := []) (t := 171) (d2 := (d + 1)) (b2 := 0) (b3 := b) cwX12_drawn mlX12_362 imX12_drawn seX12_drawn (by decide +kernel) rfl (ci := 10) rfl (OB.at (ci := 10) (show shp 171 = (20, 0) by decide +kernel) (by decide)) (Nat.le_refl _) (Nat.le_of_eq (Nat.zero_add _)) rfl rfl (by simp [oneSlot]) (Nat.le_of_ble_eq_true rfl) (Ct.mono hF ?_)
  rintro o h' (⟨v1, g1, rfl, rfl, hG⟩ | ⟨E, g, rfl, rfl, hG⟩)
  · show AW Γ l mX12_speaksOn (d + 2) b 6 [vR 171, vI x1, vU] [vI v1] (stt g1) K
    refine aw_aload_n (k' := 0) (by decide +kernel) rfl ?_
    refine gfX12_13 rfl (by decide +kernel) (OB.at (ci := 10) (show shp 171 = (20, 0) by decide +kernel) (by decide)) ?_
    refine AW.topR (show RC 171 1 = 172 by decide +kernel) ?_
    refine aw_iconst (n := 3) (by decide +kernel) ?_
    refine ax_iald (i := 3) (by decide +kernel) (isA_lit (show shp 172 = (0, 2184) by decide +kernel) (by decide)) (by decide +kernel) ⟨by decide, by decide⟩ ?_
    refine aw_aload_n (k' := 0) (by decide +kernel) rfl ?_
    refine aw_iload_n (k' := 1) (by decide +kernel) rfl ?_
    refine aw_iconst (n := 2) (by decide +kernel) ?_
    refine aw_callV (y := yX12_of) (M2 := mX12_of) (as := [vI x1, vI 2]) (S := [vI (g1 172 3), vI v1]) (t := 171) (d2 := (d + 1)) (b2 := 0) (b3 := b) cwX12_of mlX12_84 imX12_of seX12_of (by decide +kernel) rfl (ci := 10) rfl (OB.at (ci := 10) (show shp 171 = (20, 0) by decide +kernel) (by decide)) (Nat.le_refl _) (Nat.le_of_eq (Nat.zero_add _)) rfl rfl (by simp [oneSlot]) (Nat.le_of_ble_eq_true rfl) (c_of hG.1 ?_)
    show AW Γ l mX12_speaksOn (d + 2) b 18 [vR 171, vI x1, vU] [vI (ofP g1 x1 2), vI (g1 172 3), vI v1] (stt g1) K
    replace hG := hG.2
    refine aw_callS (y := yX12_chanceOf) (M2 := mX12_chanceOf) (as := [vI (g1 172 3), vI (ofP g1 x1 2)]) (S := [vI v1]) (d2 := (d + 1)) (b2 := 0) (b3 := b) cwX12_chanceOf mlX12_365 stX12_chanceOf (by decide +kernel) rfl (Nat.le_refl _) (Nat.le_of_eq (Nat.zero_add _)) rfl rfl (by simp [oneSlot]) (Nat.le_of_ble_eq_true rfl) (Ct.mono hG ?_)
    rintro o h' (⟨v2, g2, rfl, rfl, hG⟩ | ⟨E, g, rfl, rfl, hG⟩)
    · show AW Γ l mX12_speaksOn (d + 2) b 21 [vR 171, vI x1, vU] [vI v2, vI v1] (stt g2) K
      refine ax_icmp_ge (off := 14) (tgt := 35) (x' := wr v1) (y' := wr v2) (by decide +kernel) (by decide) rfl rfl (fun hc => ?_) (fun hc => ?_)
      · have hG := hG.1 hc
        exact hG
      · have hG := hG.2 hc
        refine aw_aload_n (k' := 0) (by decide +kernel) rfl ?_
        refine aw_iload_n (k' := 1) (by decide +kernel) rfl ?_
        refine aw_aload_n (k' := 0) (by decide +kernel) rfl ?_
        refine aw_iconst (n := 5) (by decide +kernel) ?_
        refine aw_callV (y := yX12_drawn) (M2 := mX12_drawn) (as := [vI 5]) (S := [vI x1, vR 171]) (t := 171) (d2 := (d + 1)) (b2 := 0) (b3 := b) cwX12_drawn mlX12_362 imX12_drawn seX12_drawn (by decide +kernel) rfl (ci := 10) rfl (OB.at (ci := 10) (show shp 171 = (20, 0) by decide +kernel) (by decide)) (Nat.le_refl _) (Nat.le_of_eq (Nat.zero_add _)) rfl rfl (by simp [oneSlot]) (Nat.le_of_ble_eq_true rfl) (Ct.mono hG ?_)
        rintro o h' (⟨v3, g3, rfl, rfl, hG⟩ | ⟨E, g, rfl, rfl, hG⟩)
        · show AW Γ l mX12_speaksOn (d + 2) b 31 [vR 171, vI x1, vU] [vI v3, vI x1, vR 171] (stt g3) K
          refine aw_callV (y := yX12_isBroken) (M2 := mX12_isBroken) (as := [vI x1, vI v3]) (S := []) (t := 171) (d2 := (d + 1)) (b2 := 0) (b3 := b) cwX12_isBroken mlX12_368 imX12_isBroken seX12_isBroken (by decide +kernel) rfl (ci := 10) rfl (OB.at (ci := 10) (show shp 171 = (20, 0) by decide +kernel) (by decide)) (Nat.le_refl _) (Nat.le_of_eq (Nat.zero_add _)) rfl rfl (by simp [oneSlot]) (Nat.le_of_ble_eq_true rfl) (Ct.mono hG ?_)
          rintro o h' (⟨v4, g4, rfl, rfl, hG⟩ | ⟨E, g, rfl, rfl, hG⟩)
          · show AW Γ l mX12_speaksOn (d + 2) b 34 [vR 171, vI x1, vU] [vI v4] (stt g4) K
            refine aw_pop (by decide +kernel) trivial ?_
            exact hG
          · exact hG
        · exact hG
    · exact hG
  · exact hG
set_option maxHeartbeats 1000000 in
theorem wpX12_speaksOn_35 {Γ : Cfg} {l : Launch} {d b : Nat} {g : GG} {K : Ou → HP → Prop} {x1 : Int} (hF : (okP x1 3) ∧ ((¬ wr (ofP g x1 3) = 1 → (okP x1 3) ∧ ((¬ wr (ofP g x1 3) = 2 → K (.inl (vI 0)) (stt g)) ∧ (¬ (¬ wr (ofP g x1 3) = 2) → K (.inl (vI 1)) (stt g)))) ∧ (¬ (¬ wr (ofP g x1 3) = 1) → (okP x1 0) ∧ ((okP x1 4) ∧ ((okP x1 1) ∧ ((0 ≤ wr (12 + 29 * x1 + 4) ∧ wr (12 + 29 * x1 + 4) < 2184) ∧ (∀ g1 : GG, g1 = upd2 g 172 (wr (12 + 29 * x1 + 4)) (iMin (ofP g x1 0) ((ofP g x1 4) + (ofP g x1 1))) → (okP x1 0) ∧ ((¬ wr (iMin (ofP g x1 0) ((ofP g x1 4) + (ofP g x1 1))) = wr (ofP g1 x1 0) → (okP x1 3) ∧ ((¬ wr (ofP g1 x1 3) = 2 → K (.inl (vI 0)) (stt g1)) ∧ (¬ (¬ wr (ofP g1 x1 3) = 2) → K (.inl (vI 1)) (stt g1)))) ∧ (¬ (¬ wr (iMin (ofP g x1 0) ((ofP g x1 4) + (ofP g x1 1))) = wr (ofP g1 x1 0)) → Ct Γ l (d + 1) 0 yX12_isHeld mX12_isHeld [vR 171, vI x1, vI (iMin (ofP g x1 0) ((ofP g x1 4) + (ofP g x1 1))), vI 5] (stt g1) (bV (fun g2 => (okP x1 3) ∧ ((¬ wr (ofP g2 x1 3) = 2 → K (.inl (vI 0)) (stt g2)) ∧ (¬ (¬ wr (ofP g2 x1 3) = 2) → K (.inl (vI 1)) (stt g2)))) K)))))))))) : AW Γ l mX12_speaksOn (d + 2) b 35 [vR 171, vI x1, vU] [] (stt g) K := by
  refine aw_aload_n (k' := 0) (by decide +kernel) rfl ?_
  refine aw_iload_n (k' := 1) (by decide +kernel) rfl ?_
  refine aw_iconst (n := 3) (by decide +kernel) ?_
  refine aw_callV (y := yX12_of) (M2 := mX12_of) (as := [vI x1, vI 3]) (S := []) (t := 171) (d2 := (d + 1)) (b2 := 0) (b3 := b) cwX12_of mlX12_84 imX12_of seX12_of (by decide +kernel) rfl (ci := 10) rfl (OB.at (ci := 10) (show shp 171 = (20, 0) by decide +kernel) (by decide)) (Nat.le_refl _) (Nat.le_of_eq (Nat.zero_add _)) rfl rfl (by simp [oneSlot]) (Nat.le_of_ble_eq_true rfl) (c_of hF.1 ?_)
  show AW Γ l mX12_speaksOn (d + 2) b 41 [vR 171, vI x1, vU] [vI (ofP g x1 3)] (stt g) K
  replace hF := hF.2
  refine aw_iconst (n := 1) (by decide +kernel) ?_
  refine ax_icmp_ne (off := 54) (tgt := 96) (x' := wr (ofP g x1 3)) (y' := 1) (by decide +kernel) (by decide) rfl (by decide +kernel) (fun hc => ?_) (fun hc => ?_)
  · have hF := hF.1 hc
    refine aw_aload_n (k' := 0) (by decide +kernel) rfl ?_
    refine aw_iload_n (k' := 1) (by decide +kernel) rfl ?_
    refine aw_iconst (n := 3) (by decide +kernel) ?_
    refine aw_callV (y := yX12_of) (M2 := mX12_of) (as := [vI x1, vI 3]) (S := []) (t := 171) (d2 := (d + 1)) (b2 := 0) (b3 := b) cwX12_of mlX12_84 imX12_of seX12_of (by decide +kernel) rfl (ci := 10) rfl (OB.at (ci := 10) (show shp 171 = (20, 0) by decide +kernel) (by decide)) (Nat.le_refl _) (Nat.le_of_eq (Nat.zero_add _)) rfl rfl (by simp [oneSlot]) (Nat.le_of_ble_eq_true rfl) (c_of hF.1 ?_)
    show AW Γ l mX12_speaksOn (d + 2) b 102 [vR 171, vI x1, vU] [vI (ofP g x1 3)] (stt g) K
    replace hF := hF.2
    refine aw_iconst (n := 2) (by decide +kernel) ?_
    refine ax_icmp_ne (off := 7) (tgt := 110) (x' := wr (ofP g x1 3)) (y' := 2) (by decide +kernel) (by decide) rfl (by decide +kernel) (fun hc => ?_) (fun hc => ?_)
    · have hF := hF.1 hc
      refine aw_iconst (n := 0) (by decide +kernel) ?_
      exact aw_zret (by decide +kernel) rfl rfl hF
    · have hF := hF.2 hc
      refine aw_iconst (n := 1) (by decide +kernel) ?_
      refine aw_goto (off := 4) (tgt := 111) (by decide +kernel) (by decide) ?_
      exact aw_zret (by decide +kernel) rfl rfl hF
  · have hF := hF.2 hc
    refine aw_aload_n (k' := 0) (by decide +kernel) rfl ?_
    refine aw_iload_n (k' := 1) (by decide +kernel) rfl ?_
    refine aw_iconst (n := 0) (by decide +kernel) ?_
    refine aw_callV (y := yX12_of) (M2 := mX12_of) (as := [vI x1, vI 0]) (S := []) (t := 171) (d2 := (d + 1)) (b2 := 0) (b3 := b) cwX12_of mlX12_84 imX12_of seX12_of (by decide +kernel) rfl (ci := 10) rfl (OB.at (ci := 10) (show shp 171 = (20, 0) by decide +kernel) (by decide)) (Nat.le_refl _) (Nat.le_of_eq (Nat.zero_add _)) rfl rfl (by simp [oneSlot]) (Nat.le_of_ble_eq_true rfl) (c_of hF.1 ?_)
    show AW Γ l mX12_speaksOn (d + 2) b 51 [vR 171, vI x1, vU] [vI (ofP g x1 0)] (stt g) K
    replace hF := hF.2
    refine aw_aload_n (k' := 0) (by decide +kernel) rfl ?_
    refine aw_iload_n (k' := 1) (by decide +kernel) rfl ?_
    refine aw_iconst (n := 4) (by decide +kernel) ?_
    refine aw_callV (y := yX12_of) (M2 := mX12_of) (as := [vI x1, vI 4]) (S := [vI (ofP g x1 0)]) (t := 171) (d2 := (d + 1)) (b2 := 0) (b3 := b) cwX12_of mlX12_84 imX12_of seX12_of (by decide +kernel) rfl (ci := 10) rfl (OB.at (ci := 10) (show shp 171 = (20, 0) by decide +kernel) (by decide)) (Nat.le_refl _) (Nat.le_of_eq (Nat.zero_add _)) rfl rfl (by simp [oneSlot]) (Nat.le_of_ble_eq_true rfl) (c_of hF.1 ?_)
    show AW Γ l mX12_speaksOn (d + 2) b 57 [vR 171, vI x1, vU] [vI (ofP g x1 4), vI (ofP g x1 0)] (stt g) K
    replace hF := hF.2
    refine aw_aload_n (k' := 0) (by decide +kernel) rfl ?_
    refine aw_iload_n (k' := 1) (by decide +kernel) rfl ?_
    refine aw_iconst (n := 1) (by decide +kernel) ?_
    refine aw_callV (y := yX12_of) (M2 := mX12_of) (as := [vI x1, vI 1]) (S := [vI (ofP g x1 4), vI (ofP g x1 0)]) (t := 171) (d2 := (d + 1)) (b2 := 0) (b3 := b) cwX12_of mlX12_84 imX12_of seX12_of (by decide +kernel) rfl (ci := 10) rfl (OB.at (ci := 10) (show shp 171 = (20, 0) by decide +kernel) (by decide)) (Nat.le_refl _) (Nat.le_of_eq (Nat.zero_add _)) rfl rfl (by simp [oneSlot]) (Nat.le_of_ble_eq_true rfl) (c_of hF.1 ?_)
    show AW Γ l mX12_speaksOn (d + 2) b 63 [vR 171, vI x1, vU] [vI (ofP g x1 1), vI (ofP g x1 4), vI (ofP g x1 0)] (stt g) K
    replace hF := hF.2
    refine aw_iadd (by decide +kernel) ?_
    refine aw_mmin (by decide +kernel) mlX12_285 stJ9_min_7cf53 cwM_init cwM_min (by simp [oneSlot]) (Nat.le_of_ble_eq_true rfl) ?_
    refine aw_istore_n (k' := 2) (by decide +kernel) (by decide) ?_
    show AW Γ l mX12_speaksOn (d + 2) b 68 [vR 171, vI x1, vI (iMin (ofP g x1 0) ((ofP g x1 4) + (ofP g x1 1)))] [] (stt g) K
    refine aw_aload_n (k' := 0) (by decide +kernel) rfl ?_
    refine gfX12_13 rfl (by decide +kernel) (OB.at (ci := 10) (show shp 171 = (20, 0) by decide +kernel) (by decide)) ?_
    refine AW.topR (show RC 171 1 = 172 by decide +kernel) ?_
    refine aw_iload_n (k' := 1) (by decide +kernel) rfl ?_
    refine aw_iconst (n := 4) (by decide +kernel) ?_
    refine aw_callS (y := yX12_personAt) (M2 := mX12_personAt) (as := [vI x1, vI 4]) (S := [vR 172]) (d2 := (d + 1)) (b2 := 0) (b3 := b) cwX12_personAt mlX12_80 stX12_personAt (by decide +kernel) rfl (Nat.le_refl _) (Nat.le_of_eq (Nat.zero_add _)) rfl rfl (by simp [oneSlot]) (Nat.le_of_ble_eq_true rfl) (c_personAt ?_)
    show AW Γ l mX12_speaksOn (d + 2) b 77 [vR 171, vI x1, vI (iMin (ofP g x1 0) ((ofP g x1 4) + (ofP g x1 1)))] [vI (12 + 29 * x1 + 4), vR 172] (stt g) K
    refine aw_iload_n (k' := 2) (by decide +kernel) rfl ?_
    refine ax_iast (i := wr (12 + 29 * x1 + 4)) (by decide +kernel) (isA_lit (show shp 172 = (0, 2184) by decide +kernel) (by decide)) rfl hF.1 ?_
    show AW Γ l mX12_speaksOn (d + 2) b 79 [vR 171, vI x1, vI (iMin (ofP g x1 0) ((ofP g x1 4) + (ofP g x1 1)))] [] (stt (upd2 g 172 (wr (12 + 29 * x1 + 4)) (iMin (ofP g x1 0) ((ofP g x1 4) + (ofP g x1 1))))) K
    replace hF := hF.2
    show AW Γ l mX12_speaksOn (d + 2) b 79 [vR 171, vI x1, vI (iMin (ofP g x1 0) ((ofP g x1 4) + (ofP g x1 1)))] [] (stt (upd2 g 172 (wr (12 + 29 * x1 + 4)) (iMin (ofP g x1 0) ((ofP g x1 4) + (ofP g x1 1))))) K
    generalize eg1 : upd2 g 172 (wr (12 + 29 * x1 + 4)) (iMin (ofP g x1 0) ((ofP g x1 4) + (ofP g x1 1))) = g1
    replace hF := hF g1 eg1.symm
    refine aw_iload_n (k' := 2) (by decide +kernel) rfl ?_
    refine aw_aload_n (k' := 0) (by decide +kernel) rfl ?_
    refine aw_iload_n (k' := 1) (by decide +kernel) rfl ?_
    refine aw_iconst (n := 0) (by decide +kernel) ?_
    refine aw_callV (y := yX12_of) (M2 := mX12_of) (as := [vI x1, vI 0]) (S := [vI (iMin (ofP g x1 0) ((ofP g x1 4) + (ofP g x1 1)))]) (t := 171) (d2 := (d + 1)) (b2 := 0) (b3 := b) cwX12_of mlX12_84 imX12_of seX12_of (by decide +kernel) rfl (ci := 10) rfl (OB.at (ci := 10) (show shp 171 = (20, 0) by decide +kernel) (by decide)) (Nat.le_refl _) (Nat.le_of_eq (Nat.zero_add _)) rfl rfl (by simp [oneSlot]) (Nat.le_of_ble_eq_true rfl) (c_of hF.1 ?_)
    show AW Γ l mX12_speaksOn (d + 2) b 86 [vR 171, vI x1, vI (iMin (ofP g x1 0) ((ofP g x1 4) + (ofP g x1 1)))] [vI (ofP g1 x1 0), vI (iMin (ofP g x1 0) ((ofP g x1 4) + (ofP g x1 1)))] (stt g1) K
    replace hF := hF.2
    refine ax_icmp_ne (off := 10) (tgt := 96) (x' := wr (iMin (ofP g x1 0) ((ofP g x1 4) + (ofP g x1 1)))) (y' := wr (ofP g1 x1 0)) (by decide +kernel) (by decide) rfl rfl (fun hc => ?_) (fun hc => ?_)
    · have hF := hF.1 hc
      refine aw_aload_n (k' := 0) (by decide +kernel) rfl ?_
      refine aw_iload_n (k' := 1) (by decide +kernel) rfl ?_
      refine aw_iconst (n := 3) (by decide +kernel) ?_
      refine aw_callV (y := yX12_of) (M2 := mX12_of) (as := [vI x1, vI 3]) (S := []) (t := 171) (d2 := (d + 1)) (b2 := 0) (b3 := b) cwX12_of mlX12_84 imX12_of seX12_of (by decide +kernel) rfl (ci := 10) rfl (OB.at (ci := 10) (show shp 171 = (20, 0) by decide +kernel) (by decide)) (Nat.le_refl _) (Nat.le_of_eq (Nat.zero_add _)) rfl rfl (by simp [oneSlot]) (Nat.le_of_ble_eq_true rfl) (c_of hF.1 ?_)
      show AW Γ l mX12_speaksOn (d + 2) b 102 [vR 171, vI x1, vI (iMin (ofP g x1 0) ((ofP g x1 4) + (ofP g x1 1)))] [vI (ofP g1 x1 3)] (stt g1) K
      replace hF := hF.2
      refine aw_iconst (n := 2) (by decide +kernel) ?_
      refine ax_icmp_ne (off := 7) (tgt := 110) (x' := wr (ofP g1 x1 3)) (y' := 2) (by decide +kernel) (by decide) rfl (by decide +kernel) (fun hc => ?_) (fun hc => ?_)
      · have hF := hF.1 hc
        refine aw_iconst (n := 0) (by decide +kernel) ?_
        exact aw_zret (by decide +kernel) rfl rfl hF
      · have hF := hF.2 hc
        refine aw_iconst (n := 1) (by decide +kernel) ?_
        refine aw_goto (off := 4) (tgt := 111) (by decide +kernel) (by decide) ?_
        exact aw_zret (by decide +kernel) rfl rfl hF
    · have hF := hF.2 hc
      refine aw_aload_n (k' := 0) (by decide +kernel) rfl ?_
      refine aw_iload_n (k' := 1) (by decide +kernel) rfl ?_
      refine aw_iload_n (k' := 2) (by decide +kernel) rfl ?_
      refine aw_iconst (n := 5) (by decide +kernel) ?_
      refine aw_callV (y := yX12_isHeld) (M2 := mX12_isHeld) (as := [vI x1, vI (iMin (ofP g x1 0) ((ofP g x1 4) + (ofP g x1 1))), vI 5]) (S := []) (t := 171) (d2 := (d + 1)) (b2 := 0) (b3 := b) cwX12_isHeld mlX12_358 imX12_isHeld seX12_isHeld (by decide +kernel) rfl (ci := 10) rfl (OB.at (ci := 10) (show shp 171 = (20, 0) by decide +kernel) (by decide)) (Nat.le_refl _) (Nat.le_of_eq (Nat.zero_add _)) rfl rfl (by simp [oneSlot]) (Nat.le_of_ble_eq_true rfl) (Ct.mono hF ?_)
      rintro o h' (⟨g2, rfl, rfl, hG⟩ | ⟨E, g, rfl, rfl, hG⟩)
      · show AW Γ l mX12_speaksOn (d + 2) b 96 [vR 171, vI x1, vI (iMin (ofP g x1 0) ((ofP g x1 4) + (ofP g x1 1)))] [] (stt g2) K
        refine aw_aload_n (k' := 0) (by decide +kernel) rfl ?_
        refine aw_iload_n (k' := 1) (by decide +kernel) rfl ?_
        refine aw_iconst (n := 3) (by decide +kernel) ?_
        refine aw_callV (y := yX12_of) (M2 := mX12_of) (as := [vI x1, vI 3]) (S := []) (t := 171) (d2 := (d + 1)) (b2 := 0) (b3 := b) cwX12_of mlX12_84 imX12_of seX12_of (by decide +kernel) rfl (ci := 10) rfl (OB.at (ci := 10) (show shp 171 = (20, 0) by decide +kernel) (by decide)) (Nat.le_refl _) (Nat.le_of_eq (Nat.zero_add _)) rfl rfl (by simp [oneSlot]) (Nat.le_of_ble_eq_true rfl) (c_of hG.1 ?_)
        show AW Γ l mX12_speaksOn (d + 2) b 102 [vR 171, vI x1, vI (iMin (ofP g x1 0) ((ofP g x1 4) + (ofP g x1 1)))] [vI (ofP g2 x1 3)] (stt g2) K
        replace hG := hG.2
        refine aw_iconst (n := 2) (by decide +kernel) ?_
        refine ax_icmp_ne (off := 7) (tgt := 110) (x' := wr (ofP g2 x1 3)) (y' := 2) (by decide +kernel) (by decide) rfl (by decide +kernel) (fun hc => ?_) (fun hc => ?_)
        · have hG := hG.1 hc
          refine aw_iconst (n := 0) (by decide +kernel) ?_
          exact aw_zret (by decide +kernel) rfl rfl hG
        · have hG := hG.2 hc
          refine aw_iconst (n := 1) (by decide +kernel) ?_
          refine aw_goto (off := 4) (tgt := 111) (by decide +kernel) (by decide) ?_
          exact aw_zret (by decide +kernel) rfl rfl hG
      · exact hG

set_option maxHeartbeats 1000000 in
theorem wpX12_oneHour {Γ : Cfg} {l : Launch} {d b : Nat} {g : GG} {K : Ou → HP → Prop}  (hF : AW Γ l mX12_oneHour (d + 2) b 4 [vR 171, vI 0, vI 0] [] (stt g) K) : Ct Γ l (d + 2) b yX12_oneHour mX12_oneHour [vR 171] (stt g) K := by
  refine Ct.enter (L := [vR 171, vU, vU]) rfl rfl rfl (by decide +kernel) (by simp [oneSlot]) (Nat.le_of_ble_eq_true rfl) rfl ?_
  refine aw_iconst (n := 0) (by decide +kernel) ?_
  refine aw_istore_n (k' := 1) (by decide +kernel) (by decide) ?_
  show AW Γ l mX12_oneHour (d + 2) b 2 [vR 171, vI 0, vU] [] (stt g) K
  refine aw_iconst (n := 0) (by decide +kernel) ?_
  refine aw_istore_n (k' := 2) (by decide +kernel) (by decide) ?_
  show AW Γ l mX12_oneHour (d + 2) b 4 [vR 171, vI 0, vI 0] [] (stt g) K
  exact hF
set_option maxHeartbeats 1000000 in
theorem wpX12_oneHour_4 {Γ : Cfg} {l : Launch} {d b : Nat} {g : GG} {K : Ou → HP → Prop} {y1 : Int} {y2 : Int} (hF : (wr (g 172 0) ≤ wr y2 → (∀ g1 : GG, g1 = upd2 g 172 4 (iMin 9999 ((g 172 4) + 1)) → K (.inl (vI y1)) (stt g1))) ∧ (¬ (wr (g 172 0) ≤ wr y2) → (okP y2 3) ∧ ((¬ wr (ofP g y2 3) = 1 → AW Γ l mX12_oneHour (d + 2) b 4 [vR 171, vI y1, vI (y2 + 1)] [] (stt g) K) ∧ (¬ (¬ wr (ofP g y2 3) = 1) → Ct Γ l (d + 1) 0 yX12_speaksOn mX12_speaksOn [vR 171, vI y2] (stt g) (bI (fun v1 g2 => (¬ wr v1 = 0 → (∀ g3 : GG, g3 = upd2 g2 172 5 (iMin 9999 ((g2 172 5) + (g2 171 24))) → AW Γ l mX12_oneHour (d + 2) b 4 [vR 171, vI (y1 + 1), vI (y2 + 1)] [] (stt g3) K)) ∧ (¬ (¬ wr v1 = 0) → AW Γ l mX12_oneHour (d + 2) b 4 [vR 171, vI y1, vI (y2 + 1)] [] (stt g2) K)) K))))) : AW Γ l mX12_oneHour (d + 2) b 4 [vR 171, vI y1, vI y2] [] (stt g) K := by
  refine aw_iload_n (k' := 2) (by decide +kernel) rfl ?_
  refine aw_aload_n (k' := 0) (by decide +kernel) rfl ?_
  refine aw_callV (y := yX12_people) (M2 := mX12_people) (as := []) (S := [vI y2]) (t := 171) (d2 := (d + 1)) (b2 := 0) (b3 := b) cwX12_people mlX12_87 imX12_people seX12_people (by decide +kernel) rfl (ci := 10) rfl (OB.at (ci := 10) (show shp 171 = (20, 0) by decide +kernel) (by decide)) (Nat.le_refl _) (Nat.le_of_eq (Nat.zero_add _)) rfl rfl (by simp [oneSlot]) (Nat.le_of_ble_eq_true rfl) (c_people ?_)
  show AW Γ l mX12_oneHour (d + 2) b 9 [vR 171, vI y1, vI y2] [vI (g 172 0), vI y2] (stt g) K
  refine ax_icmp_ge (off := 56) (tgt := 65) (x' := wr y2) (y' := wr (g 172 0)) (by decide +kernel) (by decide) rfl rfl (fun hc => ?_) (fun hc => ?_)
  · have hF := hF.1 hc
    refine aw_aload_n (k' := 0) (by decide +kernel) rfl ?_
    refine gfX12_13 rfl (by decide +kernel) (OB.at (ci := 10) (show shp 171 = (20, 0) by decide +kernel) (by decide)) ?_
    refine AW.topR (show RC 171 1 = 172 by decide +kernel) ?_
    refine aw_iconst (n := 4) (by decide +kernel) ?_
    refine aw_sipush (n := 9999) (by decide +kernel) (by decide +kernel) ?_
    refine aw_aload_n (k' := 0) (by decide +kernel) rfl ?_
    refine gfX12_13 rfl (by decide +kernel) (OB.at (ci := 10) (show shp 171 = (20, 0) by decide +kernel) (by decide)) ?_
    refine AW.topR (show RC 171 1 = 172 by decide +kernel) ?_
    refine aw_iconst (n := 4) (by decide +kernel) ?_
    refine ax_iald (i := 4) (by decide +kernel) (isA_lit (show shp 172 = (0, 2184) by decide +kernel) (by decide)) (by decide +kernel) ⟨by decide, by decide⟩ ?_
    refine aw_iconst (n := 1) (by decide +kernel) ?_
    refine aw_iadd (by decide +kernel) ?_
    refine aw_mmin (by decide +kernel) mlX12_285 stJ9_min_7cf53 cwM_init cwM_min (by simp [oneSlot]) (Nat.le_of_ble_eq_true rfl) ?_
    refine ax_iast (i := 4) (by decide +kernel) (isA_lit (show shp 172 = (0, 2184) by decide +kernel) (by decide)) (by decide +kernel) ⟨by decide, by decide⟩ ?_
    show AW Γ l mX12_oneHour (d + 2) b 85 [vR 171, vI y1, vI y2] [] (stt (upd2 g 172 4 (iMin 9999 ((g 172 4) + 1)))) K
    show AW Γ l mX12_oneHour (d + 2) b 85 [vR 171, vI y1, vI y2] [] (stt (upd2 g 172 4 (iMin 9999 ((g 172 4) + 1)))) K
    generalize eg1 : upd2 g 172 4 (iMin 9999 ((g 172 4) + 1)) = g1
    replace hF := hF g1 eg1.symm
    refine aw_iload_n (k' := 1) (by decide +kernel) rfl ?_
    exact aw_iret (by decide +kernel) rfl hF
  · have hF := hF.2 hc
    refine aw_aload_n (k' := 0) (by decide +kernel) rfl ?_
    refine aw_iload_n (k' := 2) (by decide +kernel) rfl ?_
    refine aw_iconst (n := 3) (by decide +kernel) ?_
    refine aw_callV (y := yX12_of) (M2 := mX12_of) (as := [vI y2, vI 3]) (S := []) (t := 171) (d2 := (d + 1)) (b2 := 0) (b3 := b) cwX12_of mlX12_84 imX12_of seX12_of (by decide +kernel) rfl (ci := 10) rfl (OB.at (ci := 10) (show shp 171 = (20, 0) by decide +kernel) (by decide)) (Nat.le_refl _) (Nat.le_of_eq (Nat.zero_add _)) rfl rfl (by simp [oneSlot]) (Nat.le_of_ble_eq_true rfl) (c_of hF.1 ?_)
    show AW Γ l mX12_oneHour (d + 2) b 18 [vR 171, vI y1, vI y2] [vI (ofP g y2 3)] (stt g) K
    replace hF := hF.2
    refine aw_iconst (n := 1) (by decide +kernel) ?_
    refine ax_icmp_ne (off := 40) (tgt := 59) (x' := wr (ofP g y2 3)) (y' := 1) (by decide +kernel) (by decide) rfl (by decide +kernel) (fun hc => ?_) (fun hc => ?_)
    · have hF := hF.1 hc
      refine aw_iinc (i := 2) (n := 1) (by decide +kernel) rfl (by decide) ?_
      show AW Γ l mX12_oneHour (d + 2) b 62 [vR 171, vI y1, vI (y2 + 1)] [] (stt g) K
      refine aw_goto (off := -58) (tgt := 4) (by decide +kernel) (by decide) ?_
      exact hF
    · have hF := hF.2 hc
      refine aw_aload_n (k' := 0) (by decide +kernel) rfl ?_
      refine aw_iload_n (k' := 2) (by decide +kernel) rfl ?_
      refine aw_callV (y := yX12_speaksOn) (M2 := mX12_speaksOn) (as := [vI y2]) (S := []) (t := 171) (d2 := (d + 1)) (b2 := 0) (b3 := b) cwX12_speaksOn mlX12_371 imX12_speaksOn seX12_speaksOn (by decide +kernel) rfl (ci := 10) rfl (OB.at (ci := 10) (show shp 171 = (20, 0) by decide +kernel) (by decide)) (Nat.le_refl _) (Nat.le_of_eq (Nat.zero_add _)) rfl rfl (by simp [oneSlot]) (Nat.le_of_ble_eq_true rfl) (Ct.mono hF ?_)
      rintro o h' (⟨v1, g2, rfl, rfl, hG⟩ | ⟨E, g, rfl, rfl, hG⟩)
      · show AW Γ l mX12_oneHour (d + 2) b 27 [vR 171, vI y1, vI y2] [vI v1] (stt g2) K
        refine ax_if_ne (off := 6) (tgt := 33) (x' := wr v1) (by decide +kernel) (by decide) rfl (fun hc => ?_) (fun hc => ?_)
        · have hG := hG.1 hc
          refine aw_iinc (i := 1) (n := 1) (by decide +kernel) rfl (by decide) ?_
          show AW Γ l mX12_oneHour (d + 2) b 36 [vR 171, vI (y1 + 1), vI y2] [] (stt g2) K
          refine aw_aload_n (k' := 0) (by decide +kernel) rfl ?_
          refine gfX12_13 rfl (by decide +kernel) (OB.at (ci := 10) (show shp 171 = (20, 0) by decide +kernel) (by decide)) ?_
          refine AW.topR (show RC 171 1 = 172 by decide +kernel) ?_
          refine aw_iconst (n := 5) (by decide +kernel) ?_
          refine aw_sipush (n := 9999) (by decide +kernel) (by decide +kernel) ?_
          refine aw_aload_n (k' := 0) (by decide +kernel) rfl ?_
          refine gfX12_13 rfl (by decide +kernel) (OB.at (ci := 10) (show shp 171 = (20, 0) by decide +kernel) (by decide)) ?_
          refine AW.topR (show RC 171 1 = 172 by decide +kernel) ?_
          refine aw_iconst (n := 5) (by decide +kernel) ?_
          refine ax_iald (i := 5) (by decide +kernel) (isA_lit (show shp 172 = (0, 2184) by decide +kernel) (by decide)) (by decide +kernel) ⟨by decide, by decide⟩ ?_
          refine aw_aload_n (k' := 0) (by decide +kernel) rfl ?_
          refine gfX12_348 rfl (by decide +kernel) (OB.at (ci := 10) (show shp 171 = (20, 0) by decide +kernel) (by decide)) ?_
          refine aw_iadd (by decide +kernel) ?_
          refine aw_mmin (by decide +kernel) mlX12_285 stJ9_min_7cf53 cwM_init cwM_min (by simp [oneSlot]) (Nat.le_of_ble_eq_true rfl) ?_
          refine ax_iast (i := 5) (by decide +kernel) (isA_lit (show shp 172 = (0, 2184) by decide +kernel) (by decide)) (by decide +kernel) ⟨by decide, by decide⟩ ?_
          show AW Γ l mX12_oneHour (d + 2) b 59 [vR 171, vI (y1 + 1), vI y2] [] (stt (upd2 g2 172 5 (iMin 9999 ((g2 172 5) + (g2 171 24))))) K
          show AW Γ l mX12_oneHour (d + 2) b 59 [vR 171, vI (y1 + 1), vI y2] [] (stt (upd2 g2 172 5 (iMin 9999 ((g2 172 5) + (g2 171 24))))) K
          generalize eg3 : upd2 g2 172 5 (iMin 9999 ((g2 172 5) + (g2 171 24))) = g3
          replace hG := hG g3 eg3.symm
          refine aw_iinc (i := 2) (n := 1) (by decide +kernel) rfl (by decide) ?_
          show AW Γ l mX12_oneHour (d + 2) b 62 [vR 171, vI (y1 + 1), vI (y2 + 1)] [] (stt g3) K
          refine aw_goto (off := -58) (tgt := 4) (by decide +kernel) (by decide) ?_
          exact hG
        · have hG := hG.2 hc
          refine aw_goto (off := 29) (tgt := 59) (by decide +kernel) (by decide) ?_
          refine aw_iinc (i := 2) (n := 1) (by decide +kernel) rfl (by decide) ?_
          show AW Γ l mX12_oneHour (d + 2) b 62 [vR 171, vI y1, vI (y2 + 1)] [] (stt g2) K
          refine aw_goto (off := -58) (tgt := 4) (by decide +kernel) (by decide) ?_
          exact hG
      · exact hG

set_option maxHeartbeats 1000000 in
theorem wpX12_goesOn {Γ : Cfg} {l : Launch} {d b : Nat} {g : GG} {K : Ou → HP → Prop} {x1 : Int} (hF : AW Γ l mX12_goesOn (d + 1) b 4 [vR 171, vI x1, vI 0, vI 0] [] (stt g) K) : Ct Γ l (d + 1) b yX12_goesOn mX12_goesOn [vR 171, vI x1] (stt g) K := by
  refine Ct.enter (L := [vR 171, vI x1, vU, vU]) rfl rfl rfl (by decide +kernel) (by simp [oneSlot]) (Nat.le_of_ble_eq_true rfl) rfl ?_
  refine aw_iconst (n := 0) (by decide +kernel) ?_
  refine aw_istore_n (k' := 2) (by decide +kernel) (by decide) ?_
  show AW Γ l mX12_goesOn (d + 1) b 2 [vR 171, vI x1, vI 0, vU] [] (stt g) K
  refine aw_iconst (n := 0) (by decide +kernel) ?_
  refine aw_istore_n (k' := 3) (by decide +kernel) (by decide) ?_
  show AW Γ l mX12_goesOn (d + 1) b 4 [vR 171, vI x1, vI 0, vI 0] [] (stt g) K
  exact hF
set_option maxHeartbeats 1000000 in
theorem wpX12_goesOn_4 {Γ : Cfg} {l : Launch} {d b : Nat} {g : GG} {K : Ou → HP → Prop} {x1 : Int} {y2 : Int} {y3 : Int} (hF : (wr x1 ≤ wr y3 → K (.inl (vI y2)) (stt g)) ∧ (¬ (wr x1 ≤ wr y3) → Ct Γ l d 0 yX12_oneHour mX12_oneHour [vR 171] (stt g) (bI (fun v1 g1 => AW Γ l mX12_goesOn (d + 1) b 4 [vR 171, vI x1, vI (y2 + v1), vI (y3 + 1)] [] (stt g1) K) K))) : AW Γ l mX12_goesOn (d + 1) b 4 [vR 171, vI x1, vI y2, vI y3] [] (stt g) K := by
  refine aw_iload_n (k' := 3) (by decide +kernel) rfl ?_
  refine aw_iload_n (k' := 1) (by decide +kernel) rfl ?_
  refine ax_icmp_ge (off := 16) (tgt := 22) (x' := wr y3) (y' := wr x1) (by decide +kernel) (by decide) rfl rfl (fun hc => ?_) (fun hc => ?_)
  · have hF := hF.1 hc
    refine aw_iload_n (k' := 2) (by decide +kernel) rfl ?_
    exact aw_iret (by decide +kernel) rfl hF
  · have hF := hF.2 hc
    refine aw_iload_n (k' := 2) (by decide +kernel) rfl ?_
    refine aw_aload_n (k' := 0) (by decide +kernel) rfl ?_
    refine aw_callV (y := yX12_oneHour) (M2 := mX12_oneHour) (as := []) (S := [vI y2]) (t := 171) (d2 := d) (b2 := 0) (b3 := b) cwX12_oneHour mlX12_374 imX12_oneHour seX12_oneHour (by decide +kernel) rfl (ci := 10) rfl (OB.at (ci := 10) (show shp 171 = (20, 0) by decide +kernel) (by decide)) (Nat.le_refl _) (Nat.le_of_eq (Nat.zero_add _)) rfl rfl (by simp [oneSlot]) (Nat.le_of_ble_eq_true rfl) (Ct.mono hF ?_)
    rintro o h' (⟨v1, g1, rfl, rfl, hG⟩ | ⟨E, g, rfl, rfl, hG⟩)
    · show AW Γ l mX12_goesOn (d + 1) b 14 [vR 171, vI x1, vI y2, vI y3] [vI v1, vI y2] (stt g1) K
      refine aw_iadd (by decide +kernel) ?_
      refine aw_istore_n (k' := 2) (by decide +kernel) (by decide) ?_
      show AW Γ l mX12_goesOn (d + 1) b 16 [vR 171, vI x1, vI (y2 + v1), vI y3] [] (stt g1) K
      refine aw_iinc (i := 3) (n := 1) (by decide +kernel) rfl (by decide) ?_
      show AW Γ l mX12_goesOn (d + 1) b 19 [vR 171, vI x1, vI (y2 + v1), vI (y3 + 1)] [] (stt g1) K
      refine aw_goto (off := -15) (tgt := 4) (by decide +kernel) (by decide) ?_
      exact hG
    · exact hG

set_option maxHeartbeats 1000000 in
theorem wpX12_wordAt {Γ : Cfg} {l : Launch} {d b : Nat} {g : GG} {K : Ou → HP → Prop} {x1 : Int} {x2 : Int} (hF : Ct Γ l (d + 1) 0 yX12_inOrder mX12_inOrder [vR 171] (stt g) (bV (fun g1 => AW Γ l mX12_wordAt (d + 2) b 9 [vR 171, vI x1, vI x2, vI 1, vI 2, vU] [] (stt g1) K) K)) : Ct Γ l (d + 2) b yX12_wordAt mX12_wordAt [vR 171, vI x1, vI x2] (stt g) K := by
  refine Ct.enter (L := [vR 171, vI x1, vI x2, vU, vU, vU]) rfl rfl rfl (by decide +kernel) (by simp [oneSlot]) (Nat.le_of_ble_eq_true rfl) rfl ?_
  refine aw_aload_n (k' := 0) (by decide +kernel) rfl ?_
  refine aw_callV (y := yX12_inOrder) (M2 := mX12_inOrder) (as := []) (S := []) (t := 171) (d2 := (d + 1)) (b2 := 0) (b3 := b) cwX12_inOrder mlX12_377 imX12_inOrder seX12_inOrder (by decide +kernel) rfl (ci := 10) rfl (OB.at (ci := 10) (show shp 171 = (20, 0) by decide +kernel) (by decide)) (Nat.le_refl _) (Nat.le_of_eq (Nat.zero_add _)) rfl rfl (by simp [oneSlot]) (Nat.le_of_ble_eq_true rfl) (Ct.mono hF ?_)
  rintro o h' (⟨g1, rfl, rfl, hG⟩ | ⟨E, g, rfl, rfl, hG⟩)
  · show AW Γ l mX12_wordAt (d + 2) b 4 [vR 171, vI x1, vI x2, vU, vU, vU] [] (stt g1) K
    refine aw_iconst (n := 1) (by decide +kernel) ?_
    refine aw_istore_n (k' := 3) (by decide +kernel) (by decide) ?_
    show AW Γ l mX12_wordAt (d + 2) b 6 [vR 171, vI x1, vI x2, vI 1, vU, vU] [] (stt g1) K
    refine aw_iconst (n := 2) (by decide +kernel) ?_
    refine aw_istore (i := 4) (by decide +kernel) (by decide) ?_
    show AW Γ l mX12_wordAt (d + 2) b 9 [vR 171, vI x1, vI x2, vI 1, vI 2, vU] [] (stt g1) K
    exact hG
  · exact hG
set_option maxHeartbeats 1000000 in
theorem wpX12_wordAt_9 {Γ : Cfg} {l : Launch} {d b : Nat} {g : GG} {K : Ou → HP → Prop} {x1 : Int} {x2 : Int} {y3 : Int} {y4 : Int} (hF : (okP x1 0) ∧ ((wr (ofP g x1 0) < wr y4 → K (.inl (vI y3)) (stt g)) ∧ (¬ (wr (ofP g x1 0) < wr y4) → Ct Γ l (d + 1) 0 yX12_weightAt mX12_weightAt [vR 171, vI x1, vI y4] (stt g) (bI (fun v1 g1 => Ct Γ l (d + 1) 0 yX12_weightAt mX12_weightAt [vR 171, vI x1, vI y3] (stt g1) (bI (fun v2 g2 => (wr x2 = 0 → (0 ≤ wr (v1 - v2) → AW Γ l mX12_wordAt (d + 2) b 9 [vR 171, vI x1, vI x2, vI y3, vI (y4 + 1), vI (v1 - v2)] [] (stt g2) K) ∧ (¬ (0 ≤ wr (v1 - v2)) → AW Γ l mX12_wordAt (d + 2) b 9 [vR 171, vI x1, vI x2, vI y4, vI (y4 + 1), vI (v1 - v2)] [] (stt g2) K)) ∧ (¬ (wr x2 = 0) → (wr (v1 - v2) ≤ 0 → AW Γ l mX12_wordAt (d + 2) b 9 [vR 171, vI x1, vI x2, vI y3, vI (y4 + 1), vI (v1 - v2)] [] (stt g2) K) ∧ (¬ (wr (v1 - v2) ≤ 0) → AW Γ l mX12_wordAt (d + 2) b 9 [vR 171, vI x1, vI x2, vI y4, vI (y4 + 1), vI (v1 - v2)] [] (stt g2) K))) K)) K)))) : AW Γ l mX12_wordAt (d + 2) b 9 [vR 171, vI x1, vI x2, vI y3, vI y4, vU] [] (stt g) K := by
  refine aw_iload (i := 4) (by decide +kernel) rfl ?_
  refine aw_aload_n (k' := 0) (by decide +kernel) rfl ?_
  refine aw_iload_n (k' := 1) (by decide +kernel) rfl ?_
  refine aw_iconst (n := 0) (by decide +kernel) ?_
  refine aw_callV (y := yX12_of) (M2 := mX12_of) (as := [vI x1, vI 0]) (S := [vI y4]) (t := 171) (d2 := (d + 1)) (b2 := 0) (b3 := b) cwX12_of mlX12_84 imX12_of seX12_of (by decide +kernel) rfl (ci := 10) rfl (OB.at (ci := 10) (show shp 171 = (20, 0) by decide +kernel) (by decide)) (Nat.le_refl _) (Nat.le_of_eq (Nat.zero_add _)) rfl rfl (by simp [oneSlot]) (Nat.le_of_ble_eq_true rfl) (c_of hF.1 ?_)
  show AW Γ l mX12_wordAt (d + 2) b 17 [vR 171, vI x1, vI x2, vI y3, vI y4, vU] [vI (ofP g x1 0), vI y4] (stt g) K
  replace hF := hF.2
  refine ax_icmp_gt (off := 55) (tgt := 72) (x' := wr y4) (y' := wr (ofP g x1 0)) (by decide +kernel) (by decide) rfl rfl (fun hc => ?_) (fun hc => ?_)
  · have hF := hF.1 hc
    refine aw_iload_n (k' := 3) (by decide +kernel) rfl ?_
    exact aw_iret (by decide +kernel) rfl hF
  · have hF := hF.2 hc
    refine aw_aload_n (k' := 0) (by decide +kernel) rfl ?_
    refine aw_iload_n (k' := 1) (by decide +kernel) rfl ?_
    refine aw_iload (i := 4) (by decide +kernel) rfl ?_
    refine aw_callV (y := yX12_weightAt) (M2 := mX12_weightAt) (as := [vI x1, vI y4]) (S := []) (t := 171) (d2 := (d + 1)) (b2 := 0) (b3 := b) cwX12_weightAt mlX12_345 imX12_weightAt seX12_weightAt (by decide +kernel) rfl (ci := 10) rfl (OB.at (ci := 10) (show shp 171 = (20, 0) by decide +kernel) (by decide)) (Nat.le_refl _) (Nat.le_of_eq (Nat.zero_add _)) rfl rfl (by simp [oneSlot]) (Nat.le_of_ble_eq_true rfl) (Ct.mono hF ?_)
    rintro o h' (⟨v1, g1, rfl, rfl, hG⟩ | ⟨E, g, rfl, rfl, hG⟩)
    · show AW Γ l mX12_wordAt (d + 2) b 27 [vR 171, vI x1, vI x2, vI y3, vI y4, vU] [vI v1] (stt g1) K
      refine aw_aload_n (k' := 0) (by decide +kernel) rfl ?_
      refine aw_iload_n (k' := 1) (by decide +kernel) rfl ?_
      refine aw_iload_n (k' := 3) (by decide +kernel) rfl ?_
      refine aw_callV (y := yX12_weightAt) (M2 := mX12_weightAt) (as := [vI x1, vI y3]) (S := [vI v1]) (t := 171) (d2 := (d + 1)) (b2 := 0) (b3 := b) cwX12_weightAt mlX12_345 imX12_weightAt seX12_weightAt (by decide +kernel) rfl (ci := 10) rfl (OB.at (ci := 10) (show shp 171 = (20, 0) by decide +kernel) (by decide)) (Nat.le_refl _) (Nat.le_of_eq (Nat.zero_add _)) rfl rfl (by simp [oneSlot]) (Nat.le_of_ble_eq_true rfl) (Ct.mono hG ?_)
      rintro o h' (⟨v2, g2, rfl, rfl, hG⟩ | ⟨E, g, rfl, rfl, hG⟩)
      · show AW Γ l mX12_wordAt (d + 2) b 33 [vR 171, vI x1, vI x2, vI y3, vI y4, vU] [vI v2, vI v1] (stt g2) K
        refine aw_isub (by decide +kernel) ?_
        refine aw_istore (i := 5) (by decide +kernel) (by decide) ?_
        show AW Γ l mX12_wordAt (d + 2) b 36 [vR 171, vI x1, vI x2, vI y3, vI y4, vI (v1 - v2)] [] (stt g2) K
        refine aw_iload_n (k' := 2) (by decide +kernel) rfl ?_
        refine ax_if_eq (off := 17) (tgt := 54) (x' := wr x2) (by decide +kernel) (by decide) rfl (fun hc => ?_) (fun hc => ?_)
        · have hG := hG.1 hc
          refine aw_iload (i := 5) (by decide +kernel) rfl ?_
          refine ax_if_ge (off := 8) (tgt := 64) (x' := wr (v1 - v2)) (by decide +kernel) (by decide) rfl (fun hc => ?_) (fun hc => ?_)
          · have hG := hG.1 hc
            refine aw_iload_n (k' := 3) (by decide +kernel) rfl ?_
            refine aw_istore_n (k' := 3) (by decide +kernel) (by decide) ?_
            show AW Γ l mX12_wordAt (d + 2) b 66 [vR 171, vI x1, vI x2, vI y3, vI y4, vI (v1 - v2)] [] (stt g2) K
            refine aw_iinc (i := 4) (n := 1) (by decide +kernel) rfl (by decide) ?_
            show AW Γ l mX12_wordAt (d + 2) b 69 [vR 171, vI x1, vI x2, vI y3, vI (y4 + 1), vI (v1 - v2)] [] (stt g2) K
            refine aw_goto (off := -60) (tgt := 9) (by decide +kernel) (by decide) ?_
            exact hG
          · have hG := hG.2 hc
            refine aw_iload (i := 4) (by decide +kernel) rfl ?_
            refine aw_goto (off := 4) (tgt := 65) (by decide +kernel) (by decide) ?_
            refine aw_istore_n (k' := 3) (by decide +kernel) (by decide) ?_
            show AW Γ l mX12_wordAt (d + 2) b 66 [vR 171, vI x1, vI x2, vI y4, vI y4, vI (v1 - v2)] [] (stt g2) K
            refine aw_iinc (i := 4) (n := 1) (by decide +kernel) rfl (by decide) ?_
            show AW Γ l mX12_wordAt (d + 2) b 69 [vR 171, vI x1, vI x2, vI y4, vI (y4 + 1), vI (v1 - v2)] [] (stt g2) K
            refine aw_goto (off := -60) (tgt := 9) (by decide +kernel) (by decide) ?_
            exact hG
        · have hG := hG.2 hc
          refine aw_iload (i := 5) (by decide +kernel) rfl ?_
          refine ax_if_le (off := 8) (tgt := 50) (x' := wr (v1 - v2)) (by decide +kernel) (by decide) rfl (fun hc => ?_) (fun hc => ?_)
          · have hG := hG.1 hc
            refine aw_iload_n (k' := 3) (by decide +kernel) rfl ?_
            refine aw_goto (off := 14) (tgt := 65) (by decide +kernel) (by decide) ?_
            refine aw_istore_n (k' := 3) (by decide +kernel) (by decide) ?_
            show AW Γ l mX12_wordAt (d + 2) b 66 [vR 171, vI x1, vI x2, vI y3, vI y4, vI (v1 - v2)] [] (stt g2) K
            refine aw_iinc (i := 4) (n := 1) (by decide +kernel) rfl (by decide) ?_
            show AW Γ l mX12_wordAt (d + 2) b 69 [vR 171, vI x1, vI x2, vI y3, vI (y4 + 1), vI (v1 - v2)] [] (stt g2) K
            refine aw_goto (off := -60) (tgt := 9) (by decide +kernel) (by decide) ?_
            exact hG
          · have hG := hG.2 hc
            refine aw_iload (i := 4) (by decide +kernel) rfl ?_
            refine aw_goto (off := 18) (tgt := 65) (by decide +kernel) (by decide) ?_
            refine aw_istore_n (k' := 3) (by decide +kernel) (by decide) ?_
            show AW Γ l mX12_wordAt (d + 2) b 66 [vR 171, vI x1, vI x2, vI y4, vI y4, vI (v1 - v2)] [] (stt g2) K
            refine aw_iinc (i := 4) (n := 1) (by decide +kernel) rfl (by decide) ?_
            show AW Γ l mX12_wordAt (d + 2) b 69 [vR 171, vI x1, vI x2, vI y4, vI (y4 + 1), vI (v1 - v2)] [] (stt g2) K
            refine aw_goto (off := -60) (tgt := 9) (by decide +kernel) (by decide) ?_
            exact hG
      · exact hG
    · exact hG

set_option maxHeartbeats 1000000 in
theorem wpX12_sureOf {Γ : Cfg} {l : Launch} {d b : Nat} {g : GG} {K : Ou → HP → Prop} {x1 : Int} (hF : AW Γ l mX12_sureOf (d + 2) b 5 [vR 171, vI x1, vI 1000000, vI 1] [] (stt g) K) : Ct Γ l (d + 2) b yX12_sureOf mX12_sureOf [vR 171, vI x1] (stt g) K := by
  refine Ct.enter (L := [vR 171, vI x1, vU, vU]) rfl rfl rfl (by decide +kernel) (by simp [oneSlot]) (Nat.le_of_ble_eq_true rfl) rfl ?_
  refine aw_ldc (idx := 137) (z := 1000000) (by decide +kernel) (tm7 115 (by decide +kernel) (by decide +kernel)) ?_
  refine aw_istore_n (k' := 2) (by decide +kernel) (by decide) ?_
  show AW Γ l mX12_sureOf (d + 2) b 3 [vR 171, vI x1, vI 1000000, vU] [] (stt g) K
  refine aw_iconst (n := 1) (by decide +kernel) ?_
  refine aw_istore_n (k' := 3) (by decide +kernel) (by decide) ?_
  show AW Γ l mX12_sureOf (d + 2) b 5 [vR 171, vI x1, vI 1000000, vI 1] [] (stt g) K
  exact hF
set_option maxHeartbeats 1000000 in
theorem wpX12_sureOf_5 {Γ : Cfg} {l : Launch} {d b : Nat} {g : GG} {K : Ou → HP → Prop} {x1 : Int} {y2 : Int} {y3 : Int} (hF : (okP x1 0) ∧ ((wr (ofP g x1 0) < wr y3 → K (.inl (vI y2)) (stt g)) ∧ (¬ (wr (ofP g x1 0) < wr y3) → Ct Γ l (d + 1) 0 yX12_weightAt mX12_weightAt [vR 171, vI x1, vI y3] (stt g) (bI (fun v1 g1 => AW Γ l mX12_sureOf (d + 2) b 5 [vR 171, vI x1, vI (iMin y2 v1), vI (y3 + 1)] [] (stt g1) K) K)))) : AW Γ l mX12_sureOf (d + 2) b 5 [vR 171, vI x1, vI y2, vI y3] [] (stt g) K := by
  refine aw_iload_n (k' := 3) (by decide +kernel) rfl ?_
  refine aw_aload_n (k' := 0) (by decide +kernel) rfl ?_
  refine aw_iload_n (k' := 1) (by decide +kernel) rfl ?_
  refine aw_iconst (n := 0) (by decide +kernel) ?_
  refine aw_callV (y := yX12_of) (M2 := mX12_of) (as := [vI x1, vI 0]) (S := [vI y3]) (t := 171) (d2 := (d + 1)) (b2 := 0) (b3 := b) cwX12_of mlX12_84 imX12_of seX12_of (by decide +kernel) rfl (ci := 10) rfl (OB.at (ci := 10) (show shp 171 = (20, 0) by decide +kernel) (by decide)) (Nat.le_refl _) (Nat.le_of_eq (Nat.zero_add _)) rfl rfl (by simp [oneSlot]) (Nat.le_of_ble_eq_true rfl) (c_of hF.1 ?_)
  show AW Γ l mX12_sureOf (d + 2) b 12 [vR 171, vI x1, vI y2, vI y3] [vI (ofP g x1 0), vI y3] (stt g) K
  replace hF := hF.2
  refine ax_icmp_gt (off := 20) (tgt := 32) (x' := wr y3) (y' := wr (ofP g x1 0)) (by decide +kernel) (by decide) rfl rfl (fun hc => ?_) (fun hc => ?_)
  · have hF := hF.1 hc
    refine aw_iload_n (k' := 2) (by decide +kernel) rfl ?_
    exact aw_iret (by decide +kernel) rfl hF
  · have hF := hF.2 hc
    refine aw_iload_n (k' := 2) (by decide +kernel) rfl ?_
    refine aw_aload_n (k' := 0) (by decide +kernel) rfl ?_
    refine aw_iload_n (k' := 1) (by decide +kernel) rfl ?_
    refine aw_iload_n (k' := 3) (by decide +kernel) rfl ?_
    refine aw_callV (y := yX12_weightAt) (M2 := mX12_weightAt) (as := [vI x1, vI y3]) (S := [vI y2]) (t := 171) (d2 := (d + 1)) (b2 := 0) (b3 := b) cwX12_weightAt mlX12_345 imX12_weightAt seX12_weightAt (by decide +kernel) rfl (ci := 10) rfl (OB.at (ci := 10) (show shp 171 = (20, 0) by decide +kernel) (by decide)) (Nat.le_refl _) (Nat.le_of_eq (Nat.zero_add _)) rfl rfl (by simp [oneSlot]) (Nat.le_of_ble_eq_true rfl) (Ct.mono hF ?_)
    rintro o h' (⟨v1, g1, rfl, rfl, hG⟩ | ⟨E, g, rfl, rfl, hG⟩)
    · show AW Γ l mX12_sureOf (d + 2) b 22 [vR 171, vI x1, vI y2, vI y3] [vI v1, vI y2] (stt g1) K
      refine aw_mmin (by decide +kernel) mlX12_285 stJ9_min_7cf53 cwM_init cwM_min (by simp [oneSlot]) (Nat.le_of_ble_eq_true rfl) ?_
      refine aw_istore_n (k' := 2) (by decide +kernel) (by decide) ?_
      show AW Γ l mX12_sureOf (d + 2) b 26 [vR 171, vI x1, vI (iMin y2 v1), vI y3] [] (stt g1) K
      refine aw_iinc (i := 3) (n := 1) (by decide +kernel) rfl (by decide) ?_
      show AW Γ l mX12_sureOf (d + 2) b 29 [vR 171, vI x1, vI (iMin y2 v1), vI (y3 + 1)] [] (stt g1) K
      refine aw_goto (off := -24) (tgt := 5) (by decide +kernel) (by decide) ?_
      exact hG
    · exact hG

set_option maxHeartbeats 1000000 in
theorem wpX12_needOf {Γ : Cfg} {l : Launch} {d b : Nat} {g : GG} {K : Ou → HP → Prop} {x1 : Int} (hF : (okP x1 0) ∧ ((okP x1 1) ∧ ((okP x1 1) ∧ (wr (ofP g x1 1) ≠ 0 ∧ (K (.inl (vI (iDiv (((ofP g x1 0) + (ofP g x1 1)) - 1) (ofP g x1 1)))) (stt g)))))) : Ct Γ l (d + 2) b yX12_needOf mX12_needOf [vR 171, vI x1] (stt g) K := by
  refine Ct.enter (L := [vR 171, vI x1]) rfl rfl rfl (by decide +kernel) (by simp [oneSlot]) (Nat.le_of_ble_eq_true rfl) rfl ?_
  refine aw_aload_n (k' := 0) (by decide +kernel) rfl ?_
  refine aw_iload_n (k' := 1) (by decide +kernel) rfl ?_
  refine aw_iconst (n := 0) (by decide +kernel) ?_
  refine aw_callV (y := yX12_of) (M2 := mX12_of) (as := [vI x1, vI 0]) (S := []) (t := 171) (d2 := (d + 1)) (b2 := 0) (b3 := b) cwX12_of mlX12_84 imX12_of seX12_of (by decide +kernel) rfl (ci := 10) rfl (OB.at (ci := 10) (show shp 171 = (20, 0) by decide +kernel) (by decide)) (Nat.le_refl _) (Nat.le_of_eq (Nat.zero_add _)) rfl rfl (by simp [oneSlot]) (Nat.le_of_ble_eq_true rfl) (c_of hF.1 ?_)
  show AW Γ l mX12_needOf (d + 2) b 6 [vR 171, vI x1] [vI (ofP g x1 0)] (stt g) K
  replace hF := hF.2
  refine aw_aload_n (k' := 0) (by decide +kernel) rfl ?_
  refine aw_iload_n (k' := 1) (by decide +kernel) rfl ?_
  refine aw_iconst (n := 1) (by decide +kernel) ?_
  refine aw_callV (y := yX12_of) (M2 := mX12_of) (as := [vI x1, vI 1]) (S := [vI (ofP g x1 0)]) (t := 171) (d2 := (d + 1)) (b2 := 0) (b3 := b) cwX12_of mlX12_84 imX12_of seX12_of (by decide +kernel) rfl (ci := 10) rfl (OB.at (ci := 10) (show shp 171 = (20, 0) by decide +kernel) (by decide)) (Nat.le_refl _) (Nat.le_of_eq (Nat.zero_add _)) rfl rfl (by simp [oneSlot]) (Nat.le_of_ble_eq_true rfl) (c_of hF.1 ?_)
  show AW Γ l mX12_needOf (d + 2) b 12 [vR 171, vI x1] [vI (ofP g x1 1), vI (ofP g x1 0)] (stt g) K
  replace hF := hF.2
  refine aw_iadd (by decide +kernel) ?_
  refine aw_iconst (n := 1) (by decide +kernel) ?_
  refine aw_isub (by decide +kernel) ?_
  refine aw_aload_n (k' := 0) (by decide +kernel) rfl ?_
  refine aw_iload_n (k' := 1) (by decide +kernel) rfl ?_
  refine aw_iconst (n := 1) (by decide +kernel) ?_
  refine aw_callV (y := yX12_of) (M2 := mX12_of) (as := [vI x1, vI 1]) (S := [vI (((ofP g x1 0) + (ofP g x1 1)) - 1)]) (t := 171) (d2 := (d + 1)) (b2 := 0) (b3 := b) cwX12_of mlX12_84 imX12_of seX12_of (by decide +kernel) rfl (ci := 10) rfl (OB.at (ci := 10) (show shp 171 = (20, 0) by decide +kernel) (by decide)) (Nat.le_refl _) (Nat.le_of_eq (Nat.zero_add _)) rfl rfl (by simp [oneSlot]) (Nat.le_of_ble_eq_true rfl) (c_of hF.1 ?_)
  show AW Γ l mX12_needOf (d + 2) b 21 [vR 171, vI x1] [vI (ofP g x1 1), vI (((ofP g x1 0) + (ofP g x1 1)) - 1)] (stt g) K
  replace hF := hF.2
  refine aw_idiv (by decide +kernel) hF.1 ?_
  replace hF := hF.2
  exact aw_iret (by decide +kernel) rfl hF

set_option maxHeartbeats 1000000 in
theorem wpX12_goingOf {Γ : Cfg} {l : Launch} {d b : Nat} {g : GG} {K : Ou → HP → Prop} {x1 : Int} (hF : (okP x1 3) ∧ ((wr (ofP g x1 3) = 1 → AW Γ l mX12_goingOf (d + 3) b 16 [vR 171, vI x1, vI 0, vI 0, vU, vU] [] (stt g) K) ∧ (¬ (wr (ofP g x1 3) = 1) → K (.inl (vI 0)) (stt g)))) : Ct Γ l (d + 3) b yX12_goingOf mX12_goingOf [vR 171, vI x1] (stt g) K := by
  refine Ct.enter (L := [vR 171, vI x1, vU, vU, vU, vU]) rfl rfl rfl (by decide +kernel) (by simp [oneSlot]) (Nat.le_of_ble_eq_true rfl) rfl ?_
  refine aw_aload_n (k' := 0) (by decide +kernel) rfl ?_
  refine aw_iload_n (k' := 1) (by decide +kernel) rfl ?_
  refine aw_iconst (n := 3) (by decide +kernel) ?_
  refine aw_callV (y := yX12_of) (M2 := mX12_of) (as := [vI x1, vI 3]) (S := []) (t := 171) (d2 := (d + 2)) (b2 := 0) (b3 := b) cwX12_of mlX12_84 imX12_of seX12_of (by decide +kernel) rfl (ci := 10) rfl (OB.at (ci := 10) (show shp 171 = (20, 0) by decide +kernel) (by decide)) (Nat.le_refl _) (Nat.le_of_eq (Nat.zero_add _)) rfl rfl (by simp [oneSlot]) (Nat.le_of_ble_eq_true rfl) (c_of hF.1 ?_)
  show AW Γ l mX12_goingOf (d + 3) b 6 [vR 171, vI x1, vU, vU, vU, vU] [vI (ofP g x1 3)] (stt g) K
  replace hF := hF.2
  refine aw_iconst (n := 1) (by decide +kernel) ?_
  refine ax_icmp_eq (off := 5) (tgt := 12) (x' := wr (ofP g x1 3)) (y' := 1) (by decide +kernel) (by decide) rfl (by decide +kernel) (fun hc => ?_) (fun hc => ?_)
  · have hF := hF.1 hc
    refine aw_iconst (n := 0) (by decide +kernel) ?_
    refine aw_istore_n (k' := 2) (by decide +kernel) (by decide) ?_
    show AW Γ l mX12_goingOf (d + 3) b 14 [vR 171, vI x1, vI 0, vU, vU, vU] [] (stt g) K
    refine aw_iconst (n := 0) (by decide +kernel) ?_
    refine aw_istore_n (k' := 3) (by decide +kernel) (by decide) ?_
    show AW Γ l mX12_goingOf (d + 3) b 16 [vR 171, vI x1, vI 0, vI 0, vU, vU] [] (stt g) K
    exact hF
  · have hF := hF.2 hc
    refine aw_iconst (n := 0) (by decide +kernel) ?_
    exact aw_iret (by decide +kernel) rfl hF
set_option maxHeartbeats 1000000 in
theorem wpX12_goingOf_16 {Γ : Cfg} {l : Launch} {d b : Nat} {g : GG} {K : Ou → HP → Prop} {x1 : Int} {y2 : Int} {y3 : Int} (hF : (wr (g 172 0) ≤ wr y3 → K (.inl (vI y2)) (stt g)) ∧ (¬ (wr (g 172 0) ≤ wr y3) → (okP y3 0) ∧ ((okP x1 4) ∧ ((wr (ofP g y3 0) < wr (ofP g x1 4) → AW Γ l mX12_goingOf (d + 3) b 49 [vR 171, vI x1, vI y2, vI y3, vI 0, vI 0] [] (stt g) K) ∧ (¬ (wr (ofP g y3 0) < wr (ofP g x1 4)) → AW Γ l mX12_goingOf (d + 3) b 49 [vR 171, vI x1, vI y2, vI y3, vI 1, vI 0] [] (stt g) K))))) : AW Γ l mX12_goingOf (d + 3) b 16 [vR 171, vI x1, vI y2, vI y3, vU, vU] [] (stt g) K := by
  refine aw_iload_n (k' := 3) (by decide +kernel) rfl ?_
  refine aw_aload_n (k' := 0) (by decide +kernel) rfl ?_
  refine aw_callV (y := yX12_people) (M2 := mX12_people) (as := []) (S := [vI y3]) (t := 171) (d2 := (d + 2)) (b2 := 0) (b3 := b) cwX12_people mlX12_87 imX12_people seX12_people (by decide +kernel) rfl (ci := 10) rfl (OB.at (ci := 10) (show shp 171 = (20, 0) by decide +kernel) (by decide)) (Nat.le_refl _) (Nat.le_of_eq (Nat.zero_add _)) rfl rfl (by simp [oneSlot]) (Nat.le_of_ble_eq_true rfl) (c_people ?_)
  show AW Γ l mX12_goingOf (d + 3) b 21 [vR 171, vI x1, vI y2, vI y3, vU, vU] [vI (g 172 0), vI y3] (stt g) K
  refine ax_icmp_ge (off := 112) (tgt := 133) (x' := wr y3) (y' := wr (g 172 0)) (by decide +kernel) (by decide) rfl rfl (fun hc => ?_) (fun hc => ?_)
  · have hF := hF.1 hc
    refine aw_iload_n (k' := 2) (by decide +kernel) rfl ?_
    exact aw_iret (by decide +kernel) rfl hF
  · have hF := hF.2 hc
    refine aw_aload_n (k' := 0) (by decide +kernel) rfl ?_
    refine aw_iload_n (k' := 3) (by decide +kernel) rfl ?_
    refine aw_iconst (n := 0) (by decide +kernel) ?_
    refine aw_callV (y := yX12_of) (M2 := mX12_of) (as := [vI y3, vI 0]) (S := []) (t := 171) (d2 := (d + 2)) (b2 := 0) (b3 := b) cwX12_of mlX12_84 imX12_of seX12_of (by decide +kernel) rfl (ci := 10) rfl (OB.at (ci := 10) (show shp 171 = (20, 0) by decide +kernel) (by decide)) (Nat.le_refl _) (Nat.le_of_eq (Nat.zero_add _)) rfl rfl (by simp [oneSlot]) (Nat.le_of_ble_eq_true rfl) (c_of hF.1 ?_)
    show AW Γ l mX12_goingOf (d + 3) b 30 [vR 171, vI x1, vI y2, vI y3, vU, vU] [vI (ofP g y3 0)] (stt g) K
    replace hF := hF.2
    refine aw_aload_n (k' := 0) (by decide +kernel) rfl ?_
    refine aw_iload_n (k' := 1) (by decide +kernel) rfl ?_
    refine aw_iconst (n := 4) (by decide +kernel) ?_
    refine aw_callV (y := yX12_of) (M2 := mX12_of) (as := [vI x1, vI 4]) (S := [vI (ofP g y3 0)]) (t := 171) (d2 := (d + 2)) (b2 := 0) (b3 := b) cwX12_of mlX12_84 imX12_of seX12_of (by decide +kernel) rfl (ci := 10) rfl (OB.at (ci := 10) (show shp 171 = (20, 0) by decide +kernel) (by decide)) (Nat.le_refl _) (Nat.le_of_eq (Nat.zero_add _)) rfl rfl (by simp [oneSlot]) (Nat.le_of_ble_eq_true rfl) (c_of hF.1 ?_)
    show AW Γ l mX12_goingOf (d + 3) b 36 [vR 171, vI x1, vI y2, vI y3, vU, vU] [vI (ofP g x1 4), vI (ofP g y3 0)] (stt g) K
    replace hF := hF.2
    refine ax_icmp_lt (off := 7) (tgt := 43) (x' := wr (ofP g y3 0)) (y' := wr (ofP g x1 4)) (by decide +kernel) (by decide) rfl rfl (fun hc => ?_) (fun hc => ?_)
    · have hF := hF.1 hc
      refine aw_iconst (n := 0) (by decide +kernel) ?_
      refine aw_istore (i := 4) (by decide +kernel) (by decide) ?_
      show AW Γ l mX12_goingOf (d + 3) b 46 [vR 171, vI x1, vI y2, vI y3, vI 0, vU] [] (stt g) K
      refine aw_iconst (n := 0) (by decide +kernel) ?_
      refine aw_istore (i := 5) (by decide +kernel) (by decide) ?_
      show AW Γ l mX12_goingOf (d + 3) b 49 [vR 171, vI x1, vI y2, vI y3, vI 0, vI 0] [] (stt g) K
      exact hF
    · have hF := hF.2 hc
      refine aw_iconst (n := 1) (by decide +kernel) ?_
      refine aw_goto (off := 4) (tgt := 44) (by decide +kernel) (by decide) ?_
      refine aw_istore (i := 4) (by decide +kernel) (by decide) ?_
      show AW Γ l mX12_goingOf (d + 3) b 46 [vR 171, vI x1, vI y2, vI y3, vI 1, vU] [] (stt g) K
      refine aw_iconst (n := 0) (by decide +kernel) ?_
      refine aw_istore (i := 5) (by decide +kernel) (by decide) ?_
      show AW Γ l mX12_goingOf (d + 3) b 49 [vR 171, vI x1, vI y2, vI y3, vI 1, vI 0] [] (stt g) K
      exact hF
set_option maxHeartbeats 1000000 in
theorem wpX12_goingOf_49 {Γ : Cfg} {l : Launch} {d b : Nat} {g : GG} {K : Ou → HP → Prop} {x1 : Int} {y2 : Int} {y3 : Int} {y4 : Int} {y5 : Int} (hF : (okP x1 4) ∧ ((wr (ofP g x1 4) ≤ wr y5 → (wr y4 = 0 → AW Γ l mX12_goingOf (d + 3) b 16 [vR 171, vI x1, vI (iOr y2 0), vI (y3 + 1), vI y4, vI y5] [] (stt g) K) ∧ (¬ (wr y4 = 0) → AW Γ l mX12_goingOf (d + 3) b 16 [vR 171, vI x1, vI (iOr y2 (iShl 1 y3)), vI (y3 + 1), vI y4, vI y5] [] (stt g) K)) ∧ (¬ (wr (ofP g x1 4) ≤ wr y5) → (wr y4 = 0 → (wr y4 = 0 → AW Γ l mX12_goingOf (d + 3) b 16 [vR 171, vI x1, vI (iOr y2 0), vI (y3 + 1), vI y4, vI y5] [] (stt g) K) ∧ (¬ (wr y4 = 0) → AW Γ l mX12_goingOf (d + 3) b 16 [vR 171, vI x1, vI (iOr y2 (iShl 1 y3)), vI (y3 + 1), vI y4, vI y5] [] (stt g) K)) ∧ (¬ (wr y4 = 0) → (okP y3 (5 + 2 * y5)) ∧ ((okP x1 (5 + 2 * y5)) ∧ ((¬ wr (ofP g y3 (5 + 2 * y5)) = wr (ofP g x1 (5 + 2 * y5)) → AW Γ l mX12_goingOf (d + 3) b 49 [vR 171, vI x1, vI y2, vI y3, vI 0, vI (y5 + 1)] [] (stt g) K) ∧ (¬ (¬ wr (ofP g y3 (5 + 2 * y5)) = wr (ofP g x1 (5 + 2 * y5))) → (okP y3 (5 + 2 * y5 + 1)) ∧ ((okP x1 (5 + 2 * y5 + 1)) ∧ ((¬ wr (ofP g y3 (5 + 2 * y5 + 1)) = wr (ofP g x1 (5 + 2 * y5 + 1)) → AW Γ l mX12_goingOf (d + 3) b 49 [vR 171, vI x1, vI y2, vI y3, vI 0, vI (y5 + 1)] [] (stt g) K) ∧ (¬ (¬ wr (ofP g y3 (5 + 2 * y5 + 1)) = wr (ofP g x1 (5 + 2 * y5 + 1))) → AW Γ l mX12_goingOf (d + 3) b 49 [vR 171, vI x1, vI y2, vI y3, vI 1, vI (y5 + 1)] [] (stt g) K)))))))))) : AW Γ l mX12_goingOf (d + 3) b 49 [vR 171, vI x1, vI y2, vI y3, vI y4, vI y5] [] (stt g) K := by
  refine aw_iload (i := 5) (by decide +kernel) rfl ?_
  refine aw_aload_n (k' := 0) (by decide +kernel) rfl ?_
  refine aw_iload_n (k' := 1) (by decide +kernel) rfl ?_
  refine aw_iconst (n := 4) (by decide +kernel) ?_
  refine aw_callV (y := yX12_of) (M2 := mX12_of) (as := [vI x1, vI 4]) (S := [vI y5]) (t := 171) (d2 := (d + 2)) (b2 := 0) (b3 := b) cwX12_of mlX12_84 imX12_of seX12_of (by decide +kernel) rfl (ci := 10) rfl (OB.at (ci := 10) (show shp 171 = (20, 0) by decide +kernel) (by decide)) (Nat.le_refl _) (Nat.le_of_eq (Nat.zero_add _)) rfl rfl (by simp [oneSlot]) (Nat.le_of_ble_eq_true rfl) (c_of hF.1 ?_)
  show AW Γ l mX12_goingOf (d + 3) b 57 [vR 171, vI x1, vI y2, vI y3, vI y4, vI y5] [vI (ofP g x1 4), vI y5] (stt g) K
  replace hF := hF.2
  refine ax_icmp_ge (off := 55) (tgt := 112) (x' := wr y5) (y' := wr (ofP g x1 4)) (by decide +kernel) (by decide) rfl rfl (fun hc => ?_) (fun hc => ?_)
  · have hF := hF.1 hc
    refine aw_iload_n (k' := 2) (by decide +kernel) rfl ?_
    refine aw_iload (i := 4) (by decide +kernel) rfl ?_
    refine ax_if_eq (off := 9) (tgt := 124) (x' := wr y4) (by decide +kernel) (by decide) rfl (fun hc => ?_) (fun hc => ?_)
    · have hF := hF.1 hc
      refine aw_iconst (n := 0) (by decide +kernel) ?_
      refine aw_ior (by decide +kernel) ?_
      refine aw_istore_n (k' := 2) (by decide +kernel) (by decide) ?_
      show AW Γ l mX12_goingOf (d + 3) b 127 [vR 171, vI x1, vI (iOr y2 0), vI y3, vI y4, vI y5] [] (stt g) K
      refine aw_iinc (i := 3) (n := 1) (by decide +kernel) rfl (by decide) ?_
      show AW Γ l mX12_goingOf (d + 3) b 130 [vR 171, vI x1, vI (iOr y2 0), vI (y3 + 1), vI y4, vI y5] [] (stt g) K
      refine aw_goto (off := -114) (tgt := 16) (by decide +kernel) (by decide) ?_
      exact hF
    · have hF := hF.2 hc
      refine aw_iconst (n := 1) (by decide +kernel) ?_
      refine aw_iload_n (k' := 3) (by decide +kernel) rfl ?_
      refine aw_ishl (by decide +kernel) ?_
      refine aw_goto (off := 4) (tgt := 125) (by decide +kernel) (by decide) ?_
      refine aw_ior (by decide +kernel) ?_
      refine aw_istore_n (k' := 2) (by decide +kernel) (by decide) ?_
      show AW Γ l mX12_goingOf (d + 3) b 127 [vR 171, vI x1, vI (iOr y2 (iShl 1 y3)), vI y3, vI y4, vI y5] [] (stt g) K
      refine aw_iinc (i := 3) (n := 1) (by decide +kernel) rfl (by decide) ?_
      show AW Γ l mX12_goingOf (d + 3) b 130 [vR 171, vI x1, vI (iOr y2 (iShl 1 y3)), vI (y3 + 1), vI y4, vI y5] [] (stt g) K
      refine aw_goto (off := -114) (tgt := 16) (by decide +kernel) (by decide) ?_
      exact hF
  · have hF := hF.2 hc
    refine aw_iload (i := 4) (by decide +kernel) rfl ?_
    refine ax_if_eq (off := 50) (tgt := 112) (x' := wr y4) (by decide +kernel) (by decide) rfl (fun hc => ?_) (fun hc => ?_)
    · have hF := hF.1 hc
      refine aw_iload_n (k' := 2) (by decide +kernel) rfl ?_
      refine aw_iload (i := 4) (by decide +kernel) rfl ?_
      refine ax_if_eq (off := 9) (tgt := 124) (x' := wr y4) (by decide +kernel) (by decide) rfl (fun hc => ?_) (fun hc => ?_)
      · have hF := hF.1 hc
        refine aw_iconst (n := 0) (by decide +kernel) ?_
        refine aw_ior (by decide +kernel) ?_
        refine aw_istore_n (k' := 2) (by decide +kernel) (by decide) ?_
        show AW Γ l mX12_goingOf (d + 3) b 127 [vR 171, vI x1, vI (iOr y2 0), vI y3, vI y4, vI y5] [] (stt g) K
        refine aw_iinc (i := 3) (n := 1) (by decide +kernel) rfl (by decide) ?_
        show AW Γ l mX12_goingOf (d + 3) b 130 [vR 171, vI x1, vI (iOr y2 0), vI (y3 + 1), vI y4, vI y5] [] (stt g) K
        refine aw_goto (off := -114) (tgt := 16) (by decide +kernel) (by decide) ?_
        exact hF
      · have hF := hF.2 hc
        refine aw_iconst (n := 1) (by decide +kernel) ?_
        refine aw_iload_n (k' := 3) (by decide +kernel) rfl ?_
        refine aw_ishl (by decide +kernel) ?_
        refine aw_goto (off := 4) (tgt := 125) (by decide +kernel) (by decide) ?_
        refine aw_ior (by decide +kernel) ?_
        refine aw_istore_n (k' := 2) (by decide +kernel) (by decide) ?_
        show AW Γ l mX12_goingOf (d + 3) b 127 [vR 171, vI x1, vI (iOr y2 (iShl 1 y3)), vI y3, vI y4, vI y5] [] (stt g) K
        refine aw_iinc (i := 3) (n := 1) (by decide +kernel) rfl (by decide) ?_
        show AW Γ l mX12_goingOf (d + 3) b 130 [vR 171, vI x1, vI (iOr y2 (iShl 1 y3)), vI (y3 + 1), vI y4, vI y5] [] (stt g) K
        refine aw_goto (off := -114) (tgt := 16) (by decide +kernel) (by decide) ?_
        exact hF
    · have hF := hF.2 hc
      refine aw_aload_n (k' := 0) (by decide +kernel) rfl ?_
      refine aw_iload_n (k' := 3) (by decide +kernel) rfl ?_
      refine aw_iload (i := 5) (by decide +kernel) rfl ?_
      refine aw_callV (y := yX12_kindOf) (M2 := mX12_kindOf) (as := [vI y3, vI y5]) (S := []) (t := 171) (d2 := (d + 2)) (b2 := 0) (b3 := b) cwX12_kindOf mlX12_303 imX12_kindOf seX12_kindOf (by decide +kernel) rfl (ci := 10) rfl (OB.at (ci := 10) (show shp 171 = (20, 0) by decide +kernel) (by decide)) (Nat.le_refl _) (Nat.le_of_eq (Nat.zero_add _)) rfl rfl (by simp [oneSlot]) (Nat.le_of_ble_eq_true rfl) (c_kindOf hF.1 ?_)
      show AW Γ l mX12_goingOf (d + 3) b 72 [vR 171, vI x1, vI y2, vI y3, vI y4, vI y5] [vI (ofP g y3 (5 + 2 * y5))] (stt g) K
      replace hF := hF.2
      refine aw_aload_n (k' := 0) (by decide +kernel) rfl ?_
      refine aw_iload_n (k' := 1) (by decide +kernel) rfl ?_
      refine aw_iload (i := 5) (by decide +kernel) rfl ?_
      refine aw_callV (y := yX12_kindOf) (M2 := mX12_kindOf) (as := [vI x1, vI y5]) (S := [vI (ofP g y3 (5 + 2 * y5))]) (t := 171) (d2 := (d + 2)) (b2 := 0) (b3 := b) cwX12_kindOf mlX12_303 imX12_kindOf seX12_kindOf (by decide +kernel) rfl (ci := 10) rfl (OB.at (ci := 10) (show shp 171 = (20, 0) by decide +kernel) (by decide)) (Nat.le_refl _) (Nat.le_of_eq (Nat.zero_add _)) rfl rfl (by simp [oneSlot]) (Nat.le_of_ble_eq_true rfl) (c_kindOf hF.1 ?_)
      show AW Γ l mX12_goingOf (d + 3) b 79 [vR 171, vI x1, vI y2, vI y3, vI y4, vI y5] [vI (ofP g x1 (5 + 2 * y5)), vI (ofP g y3 (5 + 2 * y5))] (stt g) K
      replace hF := hF.2
      refine ax_icmp_ne (off := 24) (tgt := 103) (x' := wr (ofP g y3 (5 + 2 * y5))) (y' := wr (ofP g x1 (5 + 2 * y5))) (by decide +kernel) (by decide) rfl rfl (fun hc => ?_) (fun hc => ?_)
      · have hF := hF.1 hc
        refine aw_iconst (n := 0) (by decide +kernel) ?_
        refine aw_istore (i := 4) (by decide +kernel) (by decide) ?_
        show AW Γ l mX12_goingOf (d + 3) b 106 [vR 171, vI x1, vI y2, vI y3, vI 0, vI y5] [] (stt g) K
        refine aw_iinc (i := 5) (n := 1) (by decide +kernel) rfl (by decide) ?_
        show AW Γ l mX12_goingOf (d + 3) b 109 [vR 171, vI x1, vI y2, vI y3, vI 0, vI (y5 + 1)] [] (stt g) K
        refine aw_goto (off := -60) (tgt := 49) (by decide +kernel) (by decide) ?_
        exact hF
      · have hF := hF.2 hc
        refine aw_aload_n (k' := 0) (by decide +kernel) rfl ?_
        refine aw_iload_n (k' := 3) (by decide +kernel) rfl ?_
        refine aw_iload (i := 5) (by decide +kernel) rfl ?_
        refine aw_callV (y := yX12_numberOf) (M2 := mX12_numberOf) (as := [vI y3, vI y5]) (S := []) (t := 171) (d2 := (d + 2)) (b2 := 0) (b3 := b) cwX12_numberOf mlX12_306 imX12_numberOf seX12_numberOf (by decide +kernel) rfl (ci := 10) rfl (OB.at (ci := 10) (show shp 171 = (20, 0) by decide +kernel) (by decide)) (Nat.le_refl _) (Nat.le_of_eq (Nat.zero_add _)) rfl rfl (by simp [oneSlot]) (Nat.le_of_ble_eq_true rfl) (c_numberOf hF.1 ?_)
        show AW Γ l mX12_goingOf (d + 3) b 89 [vR 171, vI x1, vI y2, vI y3, vI y4, vI y5] [vI (ofP g y3 (5 + 2 * y5 + 1))] (stt g) K
        replace hF := hF.2
        refine aw_aload_n (k' := 0) (by decide +kernel) rfl ?_
        refine aw_iload_n (k' := 1) (by decide +kernel) rfl ?_
        refine aw_iload (i := 5) (by decide +kernel) rfl ?_
        refine aw_callV (y := yX12_numberOf) (M2 := mX12_numberOf) (as := [vI x1, vI y5]) (S := [vI (ofP g y3 (5 + 2 * y5 + 1))]) (t := 171) (d2 := (d + 2)) (b2 := 0) (b3 := b) cwX12_numberOf mlX12_306 imX12_numberOf seX12_numberOf (by decide +kernel) rfl (ci := 10) rfl (OB.at (ci := 10) (show shp 171 = (20, 0) by decide +kernel) (by decide)) (Nat.le_refl _) (Nat.le_of_eq (Nat.zero_add _)) rfl rfl (by simp [oneSlot]) (Nat.le_of_ble_eq_true rfl) (c_numberOf hF.1 ?_)
        show AW Γ l mX12_goingOf (d + 3) b 96 [vR 171, vI x1, vI y2, vI y3, vI y4, vI y5] [vI (ofP g x1 (5 + 2 * y5 + 1)), vI (ofP g y3 (5 + 2 * y5 + 1))] (stt g) K
        replace hF := hF.2
        refine ax_icmp_ne (off := 7) (tgt := 103) (x' := wr (ofP g y3 (5 + 2 * y5 + 1))) (y' := wr (ofP g x1 (5 + 2 * y5 + 1))) (by decide +kernel) (by decide) rfl rfl (fun hc => ?_) (fun hc => ?_)
        · have hF := hF.1 hc
          refine aw_iconst (n := 0) (by decide +kernel) ?_
          refine aw_istore (i := 4) (by decide +kernel) (by decide) ?_
          show AW Γ l mX12_goingOf (d + 3) b 106 [vR 171, vI x1, vI y2, vI y3, vI 0, vI y5] [] (stt g) K
          refine aw_iinc (i := 5) (n := 1) (by decide +kernel) rfl (by decide) ?_
          show AW Γ l mX12_goingOf (d + 3) b 109 [vR 171, vI x1, vI y2, vI y3, vI 0, vI (y5 + 1)] [] (stt g) K
          refine aw_goto (off := -60) (tgt := 49) (by decide +kernel) (by decide) ?_
          exact hF
        · have hF := hF.2 hc
          refine aw_iconst (n := 1) (by decide +kernel) ?_
          refine aw_goto (off := 4) (tgt := 104) (by decide +kernel) (by decide) ?_
          refine aw_istore (i := 4) (by decide +kernel) (by decide) ?_
          show AW Γ l mX12_goingOf (d + 3) b 106 [vR 171, vI x1, vI y2, vI y3, vI 1, vI y5] [] (stt g) K
          refine aw_iinc (i := 5) (n := 1) (by decide +kernel) rfl (by decide) ?_
          show AW Γ l mX12_goingOf (d + 3) b 109 [vR 171, vI x1, vI y2, vI y3, vI 1, vI (y5 + 1)] [] (stt g) K
          refine aw_goto (off := -60) (tgt := 49) (by decide +kernel) (by decide) ?_
          exact hF

set_option maxHeartbeats 1000000 in
theorem wpX12_countsOf {Γ : Cfg} {l : Launch} {d b : Nat} {g : GG} {K : Ou → HP → Prop} {x1 : Int} (hF : (okP x1 3) ∧ ((¬ wr (ofP g x1 3) = 2 → K (.inl (vI 0)) (stt g)) ∧ (¬ (¬ wr (ofP g x1 3) = 2) → (okP x1 4) ∧ (K (.inl (vI (ofP g x1 4))) (stt g))))) : Ct Γ l (d + 2) b yX12_countsOf mX12_countsOf [vR 171, vI x1] (stt g) K := by
  refine Ct.enter (L := [vR 171, vI x1]) rfl rfl rfl (by decide +kernel) (by simp [oneSlot]) (Nat.le_of_ble_eq_true rfl) rfl ?_
  refine aw_aload_n (k' := 0) (by decide +kernel) rfl ?_
  refine aw_iload_n (k' := 1) (by decide +kernel) rfl ?_
  refine aw_iconst (n := 3) (by decide +kernel) ?_
  refine aw_callV (y := yX12_of) (M2 := mX12_of) (as := [vI x1, vI 3]) (S := []) (t := 171) (d2 := (d + 1)) (b2 := 0) (b3 := b) cwX12_of mlX12_84 imX12_of seX12_of (by decide +kernel) rfl (ci := 10) rfl (OB.at (ci := 10) (show shp 171 = (20, 0) by decide +kernel) (by decide)) (Nat.le_refl _) (Nat.le_of_eq (Nat.zero_add _)) rfl rfl (by simp [oneSlot]) (Nat.le_of_ble_eq_true rfl) (c_of hF.1 ?_)
  show AW Γ l mX12_countsOf (d + 2) b 6 [vR 171, vI x1] [vI (ofP g x1 3)] (stt g) K
  replace hF := hF.2
  refine aw_iconst (n := 2) (by decide +kernel) ?_
  refine ax_icmp_ne (off := 12) (tgt := 19) (x' := wr (ofP g x1 3)) (y' := 2) (by decide +kernel) (by decide) rfl (by decide +kernel) (fun hc => ?_) (fun hc => ?_)
  · have hF := hF.1 hc
    refine aw_iconst (n := 0) (by decide +kernel) ?_
    exact aw_iret (by decide +kernel) rfl hF
  · have hF := hF.2 hc
    refine aw_aload_n (k' := 0) (by decide +kernel) rfl ?_
    refine aw_iload_n (k' := 1) (by decide +kernel) rfl ?_
    refine aw_iconst (n := 4) (by decide +kernel) ?_
    refine aw_callV (y := yX12_of) (M2 := mX12_of) (as := [vI x1, vI 4]) (S := []) (t := 171) (d2 := (d + 1)) (b2 := 0) (b3 := b) cwX12_of mlX12_84 imX12_of seX12_of (by decide +kernel) rfl (ci := 10) rfl (OB.at (ci := 10) (show shp 171 = (20, 0) by decide +kernel) (by decide)) (Nat.le_refl _) (Nat.le_of_eq (Nat.zero_add _)) rfl rfl (by simp [oneSlot]) (Nat.le_of_ble_eq_true rfl) (c_of hF.1 ?_)
    show AW Γ l mX12_countsOf (d + 2) b 16 [vR 171, vI x1] [vI (ofP g x1 4)] (stt g) K
    replace hF := hF.2
    refine aw_goto (off := 4) (tgt := 20) (by decide +kernel) (by decide) ?_
    exact aw_iret (by decide +kernel) rfl hF

set_option maxHeartbeats 1000000 in
theorem wpX12_heldWeight {Γ : Cfg} {l : Launch} {d b : Nat} {g : GG} {K : Ou → HP → Prop} {x1 : Int} (hF : Ct Γ l d 0 yX12_inOrder mX12_inOrder [vR 171] (stt g) (bV (fun g1 => Ct Γ l d 0 yX12_countsOf mX12_countsOf [vR 171, vI x1] (stt g1) (bI (fun v1 g2 => Ct Γ l d 0 yX12_weightAt mX12_weightAt [vR 171, vI x1, vI v1] (stt g2) (bI (fun v2 g3 => K (.inl (vI v2)) (stt g3)) K)) K)) K)) : Ct Γ l (d + 1) b yX12_heldWeight mX12_heldWeight [vR 171, vI x1] (stt g) K := by
  refine Ct.enter (L := [vR 171, vI x1]) rfl rfl rfl (by decide +kernel) (by simp [oneSlot]) (Nat.le_of_ble_eq_true rfl) rfl ?_
  refine aw_aload_n (k' := 0) (by decide +kernel) rfl ?_
  refine aw_callV (y := yX12_inOrder) (M2 := mX12_inOrder) (as := []) (S := []) (t := 171) (d2 := d) (b2 := 0) (b3 := b) cwX12_inOrder mlX12_377 imX12_inOrder seX12_inOrder (by decide +kernel) rfl (ci := 10) rfl (OB.at (ci := 10) (show shp 171 = (20, 0) by decide +kernel) (by decide)) (Nat.le_refl _) (Nat.le_of_eq (Nat.zero_add _)) rfl rfl (by simp [oneSlot]) (Nat.le_of_ble_eq_true rfl) (Ct.mono hF ?_)
  rintro o h' (⟨g1, rfl, rfl, hG⟩ | ⟨E, g, rfl, rfl, hG⟩)
  · show AW Γ l mX12_heldWeight (d + 1) b 4 [vR 171, vI x1] [] (stt g1) K
    refine aw_aload_n (k' := 0) (by decide +kernel) rfl ?_
    refine aw_iload_n (k' := 1) (by decide +kernel) rfl ?_
    refine aw_aload_n (k' := 0) (by decide +kernel) rfl ?_
    refine aw_iload_n (k' := 1) (by decide +kernel) rfl ?_
    refine aw_callV (y := yX12_countsOf) (M2 := mX12_countsOf) (as := [vI x1]) (S := [vI x1, vR 171]) (t := 171) (d2 := d) (b2 := 0) (b3 := b) cwX12_countsOf mlX12_380 imX12_countsOf seX12_countsOf (by decide +kernel) rfl (ci := 10) rfl (OB.at (ci := 10) (show shp 171 = (20, 0) by decide +kernel) (by decide)) (Nat.le_refl _) (Nat.le_of_eq (Nat.zero_add _)) rfl rfl (by simp [oneSlot]) (Nat.le_of_ble_eq_true rfl) (Ct.mono hG ?_)
    rintro o h' (⟨v1, g2, rfl, rfl, hG⟩ | ⟨E, g, rfl, rfl, hG⟩)
    · show AW Γ l mX12_heldWeight (d + 1) b 11 [vR 171, vI x1] [vI v1, vI x1, vR 171] (stt g2) K
      refine aw_callV (y := yX12_weightAt) (M2 := mX12_weightAt) (as := [vI x1, vI v1]) (S := []) (t := 171) (d2 := d) (b2 := 0) (b3 := b) cwX12_weightAt mlX12_345 imX12_weightAt seX12_weightAt (by decide +kernel) rfl (ci := 10) rfl (OB.at (ci := 10) (show shp 171 = (20, 0) by decide +kernel) (by decide)) (Nat.le_refl _) (Nat.le_of_eq (Nat.zero_add _)) rfl rfl (by simp [oneSlot]) (Nat.le_of_ble_eq_true rfl) (Ct.mono hG ?_)
      rintro o h' (⟨v2, g3, rfl, rfl, hG⟩ | ⟨E, g, rfl, rfl, hG⟩)
      · show AW Γ l mX12_heldWeight (d + 1) b 14 [vR 171, vI x1] [vI v2] (stt g3) K
        exact aw_iret (by decide +kernel) rfl hG
      · exact hG
    · exact hG
  · exact hG

set_option maxHeartbeats 1000000 in
theorem wpX12_shareOf {Γ : Cfg} {l : Launch} {d b : Nat} {g : GG} {K : Ou → HP → Prop} {x1 : Int} (hF : AW Γ l mX12_shareOf (d + 1) b 4 [vR 171, vI x1, vI 0, vI 0] [] (stt g) K) : Ct Γ l (d + 1) b yX12_shareOf mX12_shareOf [vR 171, vI x1] (stt g) K := by
  refine Ct.enter (L := [vR 171, vI x1, vU, vU]) rfl rfl rfl (by decide +kernel) (by simp [oneSlot]) (Nat.le_of_ble_eq_true rfl) rfl ?_
  refine aw_iconst (n := 0) (by decide +kernel) ?_
  refine aw_istore_n (k' := 2) (by decide +kernel) (by decide) ?_
  show AW Γ l mX12_shareOf (d + 1) b 2 [vR 171, vI x1, vI 0, vU] [] (stt g) K
  refine aw_iconst (n := 0) (by decide +kernel) ?_
  refine aw_istore_n (k' := 3) (by decide +kernel) (by decide) ?_
  show AW Γ l mX12_shareOf (d + 1) b 4 [vR 171, vI x1, vI 0, vI 0] [] (stt g) K
  exact hF
set_option maxHeartbeats 1000000 in
theorem wpX12_shareOf_4 {Γ : Cfg} {l : Launch} {d b : Nat} {g : GG} {K : Ou → HP → Prop} {x1 : Int} {y2 : Int} {y3 : Int} (hF : (wr (g 172 0) ≤ wr y3 → (¬ wr y2 = 0 → Ct Γ l d 0 yX12_heldWeight mX12_heldWeight [vR 171, vI x1] (stt g) (bI (fun v1 g1 => wr y2 ≠ 0 ∧ (K (.inl (vI (iDiv (100 * v1) y2))) (stt g1))) K)) ∧ (¬ (¬ wr y2 = 0) → K (.inl (vI 0)) (stt g))) ∧ (¬ (wr (g 172 0) ≤ wr y3) → Ct Γ l d 0 yX12_heldWeight mX12_heldWeight [vR 171, vI y3] (stt g) (bI (fun v2 g2 => AW Γ l mX12_shareOf (d + 1) b 4 [vR 171, vI x1, vI (y2 + v2), vI (y3 + 1)] [] (stt g2) K) K))) : AW Γ l mX12_shareOf (d + 1) b 4 [vR 171, vI x1, vI y2, vI y3] [] (stt g) K := by
  refine aw_iload_n (k' := 3) (by decide +kernel) rfl ?_
  refine aw_aload_n (k' := 0) (by decide +kernel) rfl ?_
  refine aw_callV (y := yX12_people) (M2 := mX12_people) (as := []) (S := [vI y3]) (t := 171) (d2 := d) (b2 := 0) (b3 := b) cwX12_people mlX12_87 imX12_people seX12_people (by decide +kernel) rfl (ci := 10) rfl (OB.at (ci := 10) (show shp 171 = (20, 0) by decide +kernel) (by decide)) (Nat.le_refl _) (Nat.le_of_eq (Nat.zero_add _)) rfl rfl (by simp [oneSlot]) (Nat.le_of_ble_eq_true rfl) (c_people ?_)
  show AW Γ l mX12_shareOf (d + 1) b 9 [vR 171, vI x1, vI y2, vI y3] [vI (g 172 0), vI y3] (stt g) K
  refine ax_icmp_ge (off := 17) (tgt := 26) (x' := wr y3) (y' := wr (g 172 0)) (by decide +kernel) (by decide) rfl rfl (fun hc => ?_) (fun hc => ?_)
  · have hF := hF.1 hc
    refine aw_iload_n (k' := 2) (by decide +kernel) rfl ?_
    refine ax_if_ne (off := 7) (tgt := 34) (x' := wr y2) (by decide +kernel) (by decide) rfl (fun hc => ?_) (fun hc => ?_)
    · have hF := hF.1 hc
      refine aw_bipush (n := 100) (by decide +kernel) (by decide +kernel) ?_
      refine aw_aload_n (k' := 0) (by decide +kernel) rfl ?_
      refine aw_iload_n (k' := 1) (by decide +kernel) rfl ?_
      refine aw_callV (y := yX12_heldWeight) (M2 := mX12_heldWeight) (as := [vI x1]) (S := [vI 100]) (t := 171) (d2 := d) (b2 := 0) (b3 := b) cwX12_heldWeight mlX12_383 imX12_heldWeight seX12_heldWeight (by decide +kernel) rfl (ci := 10) rfl (OB.at (ci := 10) (show shp 171 = (20, 0) by decide +kernel) (by decide)) (Nat.le_refl _) (Nat.le_of_eq (Nat.zero_add _)) rfl rfl (by simp [oneSlot]) (Nat.le_of_ble_eq_true rfl) (Ct.mono hF ?_)
      rintro o h' (⟨v1, g1, rfl, rfl, hG⟩ | ⟨E, g, rfl, rfl, hG⟩)
      · show AW Γ l mX12_shareOf (d + 1) b 41 [vR 171, vI x1, vI y2, vI y3] [vI v1, vI 100] (stt g1) K
        refine aw_imul (by decide +kernel) ?_
        refine aw_iload_n (k' := 2) (by decide +kernel) rfl ?_
        refine aw_idiv (by decide +kernel) hG.1 ?_
        replace hG := hG.2
        exact aw_iret (by decide +kernel) rfl hG
      · exact hG
    · have hF := hF.2 hc
      refine aw_iconst (n := 0) (by decide +kernel) ?_
      refine aw_goto (off := 13) (tgt := 44) (by decide +kernel) (by decide) ?_
      exact aw_iret (by decide +kernel) rfl hF
  · have hF := hF.2 hc
    refine aw_iload_n (k' := 2) (by decide +kernel) rfl ?_
    refine aw_aload_n (k' := 0) (by decide +kernel) rfl ?_
    refine aw_iload_n (k' := 3) (by decide +kernel) rfl ?_
    refine aw_callV (y := yX12_heldWeight) (M2 := mX12_heldWeight) (as := [vI y3]) (S := [vI y2]) (t := 171) (d2 := d) (b2 := 0) (b3 := b) cwX12_heldWeight mlX12_383 imX12_heldWeight seX12_heldWeight (by decide +kernel) rfl (ci := 10) rfl (OB.at (ci := 10) (show shp 171 = (20, 0) by decide +kernel) (by decide)) (Nat.le_refl _) (Nat.le_of_eq (Nat.zero_add _)) rfl rfl (by simp [oneSlot]) (Nat.le_of_ble_eq_true rfl) (Ct.mono hF ?_)
    rintro o h' (⟨v2, g2, rfl, rfl, hG⟩ | ⟨E, g, rfl, rfl, hG⟩)
    · show AW Γ l mX12_shareOf (d + 1) b 18 [vR 171, vI x1, vI y2, vI y3] [vI v2, vI y2] (stt g2) K
      refine aw_iadd (by decide +kernel) ?_
      refine aw_istore_n (k' := 2) (by decide +kernel) (by decide) ?_
      show AW Γ l mX12_shareOf (d + 1) b 20 [vR 171, vI x1, vI (y2 + v2), vI y3] [] (stt g2) K
      refine aw_iinc (i := 3) (n := 1) (by decide +kernel) rfl (by decide) ?_
      show AW Γ l mX12_shareOf (d + 1) b 23 [vR 171, vI x1, vI (y2 + v2), vI (y3 + 1)] [] (stt g2) K
      refine aw_goto (off := -19) (tgt := 4) (by decide +kernel) (by decide) ?_
      exact hG
    · exact hG

set_option maxHeartbeats 1000000 in
theorem wpX12_person {Γ : Cfg} {l : Launch} {d b : Nat} {g : GG} {K : Ou → HP → Prop} {x1 : Int} {x2 : Int} (hF : (¬ (0 ≤ wr x1 ∧ wr x1 ≤ wr ((upd2 g 171 0 0) 172 0 - 1)) → K (.inl (vI 0)) (stt (upd2 (upd2 g 171 0 0) 171 0 1))) ∧ (¬ (¬ (0 ≤ wr x1 ∧ wr x1 ≤ wr ((upd2 g 171 0 0) 172 0 - 1))) → (0 ≤ wr x2 ∧ wr x2 ≤ 10 → (wr x2 = 5 → Ct Γ l (d + 1) 0 yX12_wordAt mX12_wordAt [vR 171, vI x1, vI 0] (stt (upd2 g 171 0 0)) (bI (fun v1 g1 => K (.inl (vI v1)) (stt g1)) K)) ∧ (wr x2 = 6 → Ct Γ l (d + 1) 0 yX12_wordAt mX12_wordAt [vR 171, vI x1, vI 1] (stt (upd2 g 171 0 0)) (bI (fun v2 g2 => K (.inl (vI v2)) (stt g2)) K)) ∧ (wr x2 = 7 → Ct Γ l (d + 1) 0 yX12_inOrder mX12_inOrder [vR 171] (stt (upd2 g 171 0 0)) (bV (fun g3 => Ct Γ l (d + 1) 0 yX12_sureOf mX12_sureOf [vR 171, vI x1] (stt g3) (bI (fun v3 g4 => K (.inl (vI v3)) (stt g4)) K)) K)) ∧ (wr x2 = 8 → Ct Γ l (d + 1) 0 yX12_needOf mX12_needOf [vR 171, vI x1] (stt (upd2 g 171 0 0)) (bI (fun v4 g5 => K (.inl (vI v4)) (stt g5)) K)) ∧ (wr x2 = 9 → Ct Γ l (d + 1) 0 yX12_goingOf mX12_goingOf [vR 171, vI x1] (stt (upd2 g 171 0 0)) (bI (fun v5 g6 => K (.inl (vI v5)) (stt g6)) K)) ∧ (wr x2 = 10 → Ct Γ l (d + 1) 0 yX12_shareOf mX12_shareOf [vR 171, vI x1] (stt (upd2 g 171 0 0)) (bI (fun v6 g7 => K (.inl (vI v6)) (stt g7)) K)) ∧ ((wr x2 < 5 ∨ 10 < wr x2) → (okP x1 x2) ∧ (K (.inl (vI (ofP (upd2 g 171 0 0) x1 x2))) (stt (upd2 g 171 0 0))))) ∧ (¬ (0 ≤ wr x2 ∧ wr x2 ≤ 10) → K (.inl (vI 0)) (stt (upd2 (upd2 g 171 0 0) 171 0 2))))) : Ct Γ l (d + 2) b yX12_person mX12_person [vR 171, vI x1, vI x2] (stt g) K := by
  refine Ct.enter (L := [vR 171, vI x1, vI x2]) rfl rfl rfl (by decide +kernel) (by simp [oneSlot]) (Nat.le_of_ble_eq_true rfl) rfl ?_
  refine aw_aload_n (k' := 0) (by decide +kernel) rfl ?_
  refine aw_iconst (n := 0) (by decide +kernel) ?_
  refine pfX12_3 rfl (by decide +kernel) (OB.at (ci := 10) (show shp 171 = (20, 0) by decide +kernel) (by decide)) ?_
  show AW Γ l mX12_person (d + 2) b 5 [vR 171, vI x1, vI x2] [] (stt (upd2 g 171 0 0)) K
  refine aw_aload_n (k' := 0) (by decide +kernel) rfl ?_
  refine aw_aload_n (k' := 0) (by decide +kernel) rfl ?_
  refine aw_iload_n (k' := 1) (by decide +kernel) rfl ?_
  refine aw_callV (y := yX12_noPerson) (M2 := mX12_noPerson) (as := [vI x1]) (S := [vR 171]) (t := 171) (d2 := (d + 1)) (b2 := 0) (b3 := b) cwX12_noPerson mlX12_386 imX12_noPerson seX12_noPerson (by decide +kernel) rfl (ci := 10) rfl (OB.at (ci := 10) (show shp 171 = (20, 0) by decide +kernel) (by decide)) (Nat.le_refl _) (Nat.le_of_eq (Nat.zero_add _)) rfl rfl (by simp [oneSlot]) (Nat.le_of_ble_eq_true rfl) (c_noPerson (fun hc => ?_) (fun hc => ?_))
  · have hF := hF.1 hc
    show AW Γ l mX12_person (d + 2) b 11 [vR 171, vI x1, vI x2] [vI 1, vR 171] (stt (upd2 g 171 0 0)) K
    refine aw_iconst (n := 1) (by decide +kernel) ?_
    refine aw_callV (y := yX12_throwsIf) (M2 := mX12_throwsIf) (as := [vI 1, vI 1]) (S := []) (t := 171) (d2 := (d + 1)) (b2 := 0) (b3 := b) cwX12_throwsIf mlX12_279 imX12_throwsIf seX12_throwsIf (by decide +kernel) rfl (ci := 10) rfl (OB.at (ci := 10) (show shp 171 = (20, 0) by decide +kernel) (by decide)) (Nat.le_refl _) (Nat.le_of_eq (Nat.zero_add _)) rfl rfl (by simp [oneSlot]) (Nat.le_of_ble_eq_true rfl) (c_throwsIf1 ?_)
    show AW Γ l mX12_person (d + 2) b 15 [vR 171, vI x1, vI x2] [vI 1] (stt (upd2 (upd2 g 171 0 0) 171 0 1)) K
    refine ax_if_ne (off := 26) (tgt := 41) (x' := 1) (by decide +kernel) (by decide) (by decide +kernel) (fun hc => ?_) (fun hc => absurd (by decide) hc)
    refine aw_iconst (n := 0) (by decide +kernel) ?_
    exact aw_iret (by decide +kernel) rfl hF
  · have hF := hF.2 hc
    show AW Γ l mX12_person (d + 2) b 11 [vR 171, vI x1, vI x2] [vI 0, vR 171] (stt (upd2 g 171 0 0)) K
    refine aw_iconst (n := 1) (by decide +kernel) ?_
    refine aw_callV (y := yX12_throwsIf) (M2 := mX12_throwsIf) (as := [vI 0, vI 1]) (S := []) (t := 171) (d2 := (d + 1)) (b2 := 0) (b3 := b) cwX12_throwsIf mlX12_279 imX12_throwsIf seX12_throwsIf (by decide +kernel) rfl (ci := 10) rfl (OB.at (ci := 10) (show shp 171 = (20, 0) by decide +kernel) (by decide)) (Nat.le_refl _) (Nat.le_of_eq (Nat.zero_add _)) rfl rfl (by simp [oneSlot]) (Nat.le_of_ble_eq_true rfl) (c_throwsIf0 ?_)
    show AW Γ l mX12_person (d + 2) b 15 [vR 171, vI x1, vI x2] [vI 0] (stt (upd2 g 171 0 0)) K
    refine ax_if_ne (off := 26) (tgt := 41) (x' := 0) (by decide +kernel) (by decide) (by decide +kernel) (fun hc => absurd hc (by decide)) (fun hc => ?_)
    refine aw_aload_n (k' := 0) (by decide +kernel) rfl ?_
    refine aw_iload_n (k' := 2) (by decide +kernel) rfl ?_
    refine aw_iconst (n := 0) (by decide +kernel) ?_
    refine aw_bipush (n := 10) (by decide +kernel) (by decide +kernel) ?_
    refine aw_callS (y := yX12_in) (M2 := mX12_in) (as := [vI x2, vI 0, vI 10]) (S := [vR 171]) (d2 := (d + 1)) (b2 := 0) (b3 := b) cwX12_in mlX12_91 stX12_in (by decide +kernel) rfl (Nat.le_refl _) (Nat.le_of_eq (Nat.zero_add _)) rfl rfl (by simp [oneSlot]) (Nat.le_of_ble_eq_true rfl) (c_in (x' := wr x2) (y' := 0) (z' := 10) rfl (by decide +kernel) (by decide +kernel) (fun hc => ?_) (fun hc => ?_))
    · have hF := hF.1 hc
      show AW Γ l mX12_person (d + 2) b 26 [vR 171, vI x1, vI x2] [vI 1, vR 171] (stt (upd2 g 171 0 0)) K
      refine ax_if_ne (off := 7) (tgt := 33) (x' := 1) (by decide +kernel) (by decide) (by decide +kernel) (fun hc => ?_) (fun hc => absurd (by decide) hc)
      refine aw_iconst (n := 0) (by decide +kernel) ?_
      refine aw_iconst (n := 2) (by decide +kernel) ?_
      refine aw_callV (y := yX12_throwsIf) (M2 := mX12_throwsIf) (as := [vI 0, vI 2]) (S := []) (t := 171) (d2 := (d + 1)) (b2 := 0) (b3 := b) cwX12_throwsIf mlX12_279 imX12_throwsIf seX12_throwsIf (by decide +kernel) rfl (ci := 10) rfl (OB.at (ci := 10) (show shp 171 = (20, 0) by decide +kernel) (by decide)) (Nat.le_refl _) (Nat.le_of_eq (Nat.zero_add _)) rfl rfl (by simp [oneSlot]) (Nat.le_of_ble_eq_true rfl) (c_throwsIf0 ?_)
      show AW Γ l mX12_person (d + 2) b 38 [vR 171, vI x1, vI x2] [vI 0] (stt (upd2 g 171 0 0)) K
      refine ax_if_eq (off := 5) (tgt := 43) (x' := 0) (by decide +kernel) (by decide) (by decide +kernel) (fun hc => ?_) (fun hc => absurd (by decide) hc)
      refine aw_iload_n (k' := 2) (by decide +kernel) rfl ?_
      refine ax_tsw (dflt := 82) (lo := 5) (hi := 10) (offs := #[40, 47, 54, 64, 70, 76]) (len := 40) [84, 91, 98, 108, 114, 120] 126 (by decide +kernel) (by decide) (by decide) (by decide) (by decide) (fun i hi hc => ?_) (fun hc => ?_)
      · match i, hi, hc with
        | 0, _, hc =>
          have hF := hF.1 (by simpa using hc)
          show AW Γ l mX12_person (d + 2) b 84 [vR 171, vI x1, vI x2] [] (stt (upd2 g 171 0 0)) K
          refine aw_aload_n (k' := 0) (by decide +kernel) rfl ?_
          refine aw_iload_n (k' := 1) (by decide +kernel) rfl ?_
          refine aw_iconst (n := 0) (by decide +kernel) ?_
          refine aw_callV (y := yX12_wordAt) (M2 := mX12_wordAt) (as := [vI x1, vI 0]) (S := []) (t := 171) (d2 := (d + 1)) (b2 := 0) (b3 := b) cwX12_wordAt mlX12_389 imX12_wordAt seX12_wordAt (by decide +kernel) rfl (ci := 10) rfl (OB.at (ci := 10) (show shp 171 = (20, 0) by decide +kernel) (by decide)) (Nat.le_refl _) (Nat.le_of_eq (Nat.zero_add _)) rfl rfl (by simp [oneSlot]) (Nat.le_of_ble_eq_true rfl) (Ct.mono hF ?_)
          rintro o h' (⟨v1, g1, rfl, rfl, hG⟩ | ⟨E, g, rfl, rfl, hG⟩)
          · show AW Γ l mX12_person (d + 2) b 90 [vR 171, vI x1, vI x2] [vI v1] (stt g1) K
            exact aw_iret (by decide +kernel) rfl hG
          · exact hG
        | 1, _, hc =>
          have hF := hF.2.1 (by simpa using hc)
          show AW Γ l mX12_person (d + 2) b 91 [vR 171, vI x1, vI x2] [] (stt (upd2 g 171 0 0)) K
          refine aw_aload_n (k' := 0) (by decide +kernel) rfl ?_
          refine aw_iload_n (k' := 1) (by decide +kernel) rfl ?_
          refine aw_iconst (n := 1) (by decide +kernel) ?_
          refine aw_callV (y := yX12_wordAt) (M2 := mX12_wordAt) (as := [vI x1, vI 1]) (S := []) (t := 171) (d2 := (d + 1)) (b2 := 0) (b3 := b) cwX12_wordAt mlX12_389 imX12_wordAt seX12_wordAt (by decide +kernel) rfl (ci := 10) rfl (OB.at (ci := 10) (show shp 171 = (20, 0) by decide +kernel) (by decide)) (Nat.le_refl _) (Nat.le_of_eq (Nat.zero_add _)) rfl rfl (by simp [oneSlot]) (Nat.le_of_ble_eq_true rfl) (Ct.mono hF ?_)
          rintro o h' (⟨v2, g2, rfl, rfl, hG⟩ | ⟨E, g, rfl, rfl, hG⟩)
          · show AW Γ l mX12_person (d + 2) b 97 [vR 171, vI x1, vI x2] [vI v2] (stt g2) K
            exact aw_iret (by decide +kernel) rfl hG
          · exact hG
        | 2, _, hc =>
          have hF := hF.2.2.1 (by simpa using hc)
          show AW Γ l mX12_person (d + 2) b 98 [vR 171, vI x1, vI x2] [] (stt (upd2 g 171 0 0)) K
          refine aw_aload_n (k' := 0) (by decide +kernel) rfl ?_
          refine aw_callV (y := yX12_inOrder) (M2 := mX12_inOrder) (as := []) (S := []) (t := 171) (d2 := (d + 1)) (b2 := 0) (b3 := b) cwX12_inOrder mlX12_377 imX12_inOrder seX12_inOrder (by decide +kernel) rfl (ci := 10) rfl (OB.at (ci := 10) (show shp 171 = (20, 0) by decide +kernel) (by decide)) (Nat.le_refl _) (Nat.le_of_eq (Nat.zero_add _)) rfl rfl (by simp [oneSlot]) (Nat.le_of_ble_eq_true rfl) (Ct.mono hF ?_)
          rintro o h' (⟨g3, rfl, rfl, hG⟩ | ⟨E, g, rfl, rfl, hG⟩)
          · show AW Γ l mX12_person (d + 2) b 102 [vR 171, vI x1, vI x2] [] (stt g3) K
            refine aw_aload_n (k' := 0) (by decide +kernel) rfl ?_
            refine aw_iload_n (k' := 1) (by decide +kernel) rfl ?_
            refine aw_callV (y := yX12_sureOf) (M2 := mX12_sureOf) (as := [vI x1]) (S := []) (t := 171) (d2 := (d + 1)) (b2 := 0) (b3 := b) cwX12_sureOf mlX12_393 imX12_sureOf seX12_sureOf (by decide +kernel) rfl (ci := 10) rfl (OB.at (ci := 10) (show shp 171 = (20, 0) by decide +kernel) (by decide)) (Nat.le_refl _) (Nat.le_of_eq (Nat.zero_add _)) rfl rfl (by simp [oneSlot]) (Nat.le_of_ble_eq_true rfl) (Ct.mono hG ?_)
            rintro o h' (⟨v3, g4, rfl, rfl, hG⟩ | ⟨E, g, rfl, rfl, hG⟩)
            · show AW Γ l mX12_person (d + 2) b 107 [vR 171, vI x1, vI x2] [vI v3] (stt g4) K
              exact aw_iret (by decide +kernel) rfl hG
            · exact hG
          · exact hG
        | 3, _, hc =>
          have hF := hF.2.2.2.1 (by simpa using hc)
          show AW Γ l mX12_person (d + 2) b 108 [vR 171, vI x1, vI x2] [] (stt (upd2 g 171 0 0)) K
          refine aw_aload_n (k' := 0) (by decide +kernel) rfl ?_
          refine aw_iload_n (k' := 1) (by decide +kernel) rfl ?_
          refine aw_callV (y := yX12_needOf) (M2 := mX12_needOf) (as := [vI x1]) (S := []) (t := 171) (d2 := (d + 1)) (b2 := 0) (b3 := b) cwX12_needOf mlX12_396 imX12_needOf seX12_needOf (by decide +kernel) rfl (ci := 10) rfl (OB.at (ci := 10) (show shp 171 = (20, 0) by decide +kernel) (by decide)) (Nat.le_refl _) (Nat.le_of_eq (Nat.zero_add _)) rfl rfl (by simp [oneSlot]) (Nat.le_of_ble_eq_true rfl) (Ct.mono hF ?_)
          rintro o h' (⟨v4, g5, rfl, rfl, hG⟩ | ⟨E, g, rfl, rfl, hG⟩)
          · show AW Γ l mX12_person (d + 2) b 113 [vR 171, vI x1, vI x2] [vI v4] (stt g5) K
            exact aw_iret (by decide +kernel) rfl hG
          · exact hG
        | 4, _, hc =>
          have hF := hF.2.2.2.2.1 (by simpa using hc)
          show AW Γ l mX12_person (d + 2) b 114 [vR 171, vI x1, vI x2] [] (stt (upd2 g 171 0 0)) K
          refine aw_aload_n (k' := 0) (by decide +kernel) rfl ?_
          refine aw_iload_n (k' := 1) (by decide +kernel) rfl ?_
          refine aw_callV (y := yX12_goingOf) (M2 := mX12_goingOf) (as := [vI x1]) (S := []) (t := 171) (d2 := (d + 1)) (b2 := 0) (b3 := b) cwX12_goingOf mlX12_399 imX12_goingOf seX12_goingOf (by decide +kernel) rfl (ci := 10) rfl (OB.at (ci := 10) (show shp 171 = (20, 0) by decide +kernel) (by decide)) (Nat.le_refl _) (Nat.le_of_eq (Nat.zero_add _)) rfl rfl (by simp [oneSlot]) (Nat.le_of_ble_eq_true rfl) (Ct.mono hF ?_)
          rintro o h' (⟨v5, g6, rfl, rfl, hG⟩ | ⟨E, g, rfl, rfl, hG⟩)
          · show AW Γ l mX12_person (d + 2) b 119 [vR 171, vI x1, vI x2] [vI v5] (stt g6) K
            exact aw_iret (by decide +kernel) rfl hG
          · exact hG
        | 5, _, hc =>
          have hF := hF.2.2.2.2.2.1 (by simpa using hc)
          show AW Γ l mX12_person (d + 2) b 120 [vR 171, vI x1, vI x2] [] (stt (upd2 g 171 0 0)) K
          refine aw_aload_n (k' := 0) (by decide +kernel) rfl ?_
          refine aw_iload_n (k' := 1) (by decide +kernel) rfl ?_
          refine aw_callV (y := yX12_shareOf) (M2 := mX12_shareOf) (as := [vI x1]) (S := []) (t := 171) (d2 := (d + 1)) (b2 := 0) (b3 := b) cwX12_shareOf mlX12_402 imX12_shareOf seX12_shareOf (by decide +kernel) rfl (ci := 10) rfl (OB.at (ci := 10) (show shp 171 = (20, 0) by decide +kernel) (by decide)) (Nat.le_refl _) (Nat.le_of_eq (Nat.zero_add _)) rfl rfl (by simp [oneSlot]) (Nat.le_of_ble_eq_true rfl) (Ct.mono hF ?_)
          rintro o h' (⟨v6, g7, rfl, rfl, hG⟩ | ⟨E, g, rfl, rfl, hG⟩)
          · show AW Γ l mX12_person (d + 2) b 125 [vR 171, vI x1, vI x2] [vI v6] (stt g7) K
            exact aw_iret (by decide +kernel) rfl hG
          · exact hG
        | i + 6, hi, _ => exact absurd hi (by simp)
      · have hF := hF.2.2.2.2.2.2 hc
        refine aw_aload_n (k' := 0) (by decide +kernel) rfl ?_
        refine aw_iload_n (k' := 1) (by decide +kernel) rfl ?_
        refine aw_iload_n (k' := 2) (by decide +kernel) rfl ?_
        refine aw_callV (y := yX12_of) (M2 := mX12_of) (as := [vI x1, vI x2]) (S := []) (t := 171) (d2 := (d + 1)) (b2 := 0) (b3 := b) cwX12_of mlX12_84 imX12_of seX12_of (by decide +kernel) rfl (ci := 10) rfl (OB.at (ci := 10) (show shp 171 = (20, 0) by decide +kernel) (by decide)) (Nat.le_refl _) (Nat.le_of_eq (Nat.zero_add _)) rfl rfl (by simp [oneSlot]) (Nat.le_of_ble_eq_true rfl) (c_of hF.1 ?_)
        show AW Γ l mX12_person (d + 2) b 132 [vR 171, vI x1, vI x2] [vI (ofP (upd2 g 171 0 0) x1 x2)] (stt (upd2 g 171 0 0)) K
        replace hF := hF.2
        exact aw_iret (by decide +kernel) rfl hF
    · have hF := hF.2 hc
      show AW Γ l mX12_person (d + 2) b 26 [vR 171, vI x1, vI x2] [vI 0, vR 171] (stt (upd2 g 171 0 0)) K
      refine ax_if_ne (off := 7) (tgt := 33) (x' := 0) (by decide +kernel) (by decide) (by decide +kernel) (fun hc => absurd hc (by decide)) (fun hc => ?_)
      refine aw_iconst (n := 1) (by decide +kernel) ?_
      refine aw_goto (off := 4) (tgt := 34) (by decide +kernel) (by decide) ?_
      refine aw_iconst (n := 2) (by decide +kernel) ?_
      refine aw_callV (y := yX12_throwsIf) (M2 := mX12_throwsIf) (as := [vI 1, vI 2]) (S := []) (t := 171) (d2 := (d + 1)) (b2 := 0) (b3 := b) cwX12_throwsIf mlX12_279 imX12_throwsIf seX12_throwsIf (by decide +kernel) rfl (ci := 10) rfl (OB.at (ci := 10) (show shp 171 = (20, 0) by decide +kernel) (by decide)) (Nat.le_refl _) (Nat.le_of_eq (Nat.zero_add _)) rfl rfl (by simp [oneSlot]) (Nat.le_of_ble_eq_true rfl) (c_throwsIf1 ?_)
      show AW Γ l mX12_person (d + 2) b 38 [vR 171, vI x1, vI x2] [vI 1] (stt (upd2 (upd2 g 171 0 0) 171 0 2)) K
      refine ax_if_eq (off := 5) (tgt := 43) (x' := 1) (by decide +kernel) (by decide) (by decide +kernel) (fun hc => absurd hc (by decide)) (fun hc => ?_)
      refine aw_iconst (n := 0) (by decide +kernel) ?_
      exact aw_iret (by decide +kernel) rfl hF

set_option maxHeartbeats 1000000 in
theorem wpX12_word {Γ : Cfg} {l : Launch} {d b : Nat} {g : GG} {K : Ou → HP → Prop} {x1 : Int} {x2 : Int} {x3 : Int} (hF : (¬ (0 ≤ wr x1 ∧ wr x1 ≤ wr ((upd2 g 171 0 0) 172 0 - 1)) → K (.inl (vI 0)) (stt (upd2 (upd2 g 171 0 0) 171 0 1))) ∧ (¬ (¬ (0 ≤ wr x1 ∧ wr x1 ≤ wr ((upd2 g 171 0 0) 172 0 - 1))) → (okP x1 0) ∧ ((0 ≤ wr x2 ∧ wr x2 ≤ wr ((ofP (upd2 g 171 0 0) x1 0) - 1) → (wr x3 = 0 → (okP x1 (5 + 2 * x2)) ∧ (K (.inl (vI (ofP (upd2 g 171 0 0) x1 (5 + 2 * x2)))) (stt (upd2 g 171 0 0)))) ∧ (¬ (wr x3 = 0) → (okP x1 (5 + 2 * x2 + 1)) ∧ (K (.inl (vI (ofP (upd2 g 171 0 0) x1 (5 + 2 * x2 + 1)))) (stt (upd2 g 171 0 0))))) ∧ (¬ (0 ≤ wr x2 ∧ wr x2 ≤ wr ((ofP (upd2 g 171 0 0) x1 0) - 1)) → K (.inl (vI (-1))) (stt (upd2 g 171 0 0)))))) : Ct Γ l (d + 3) b yX12_word mX12_word [vR 171, vI x1, vI x2, vI x3] (stt g) K := by
  refine Ct.enter (L := [vR 171, vI x1, vI x2, vI x3]) rfl rfl rfl (by decide +kernel) (by simp [oneSlot]) (Nat.le_of_ble_eq_true rfl) rfl ?_
  refine aw_aload_n (k' := 0) (by decide +kernel) rfl ?_
  refine aw_iconst (n := 0) (by decide +kernel) ?_
  refine pfX12_3 rfl (by decide +kernel) (OB.at (ci := 10) (show shp 171 = (20, 0) by decide +kernel) (by decide)) ?_
  show AW Γ l mX12_word (d + 3) b 5 [vR 171, vI x1, vI x2, vI x3] [] (stt (upd2 g 171 0 0)) K
  refine aw_aload_n (k' := 0) (by decide +kernel) rfl ?_
  refine aw_aload_n (k' := 0) (by decide +kernel) rfl ?_
  refine aw_iload_n (k' := 1) (by decide +kernel) rfl ?_
  refine aw_callV (y := yX12_noPerson) (M2 := mX12_noPerson) (as := [vI x1]) (S := [vR 171]) (t := 171) (d2 := (d + 2)) (b2 := 0) (b3 := b) cwX12_noPerson mlX12_386 imX12_noPerson seX12_noPerson (by decide +kernel) rfl (ci := 10) rfl (OB.at (ci := 10) (show shp 171 = (20, 0) by decide +kernel) (by decide)) (Nat.le_refl _) (Nat.le_of_eq (Nat.zero_add _)) rfl rfl (by simp [oneSlot]) (Nat.le_of_ble_eq_true rfl) (c_noPerson (fun hc => ?_) (fun hc => ?_))
  · have hF := hF.1 hc
    show AW Γ l mX12_word (d + 3) b 11 [vR 171, vI x1, vI x2, vI x3] [vI 1, vR 171] (stt (upd2 g 171 0 0)) K
    refine aw_iconst (n := 1) (by decide +kernel) ?_
    refine aw_callV (y := yX12_throwsIf) (M2 := mX12_throwsIf) (as := [vI 1, vI 1]) (S := []) (t := 171) (d2 := (d + 2)) (b2 := 0) (b3 := b) cwX12_throwsIf mlX12_279 imX12_throwsIf seX12_throwsIf (by decide +kernel) rfl (ci := 10) rfl (OB.at (ci := 10) (show shp 171 = (20, 0) by decide +kernel) (by decide)) (Nat.le_refl _) (Nat.le_of_eq (Nat.zero_add _)) rfl rfl (by simp [oneSlot]) (Nat.le_of_ble_eq_true rfl) (c_throwsIf1 ?_)
    show AW Γ l mX12_word (d + 3) b 15 [vR 171, vI x1, vI x2, vI x3] [vI 1] (stt (upd2 (upd2 g 171 0 0) 171 0 1)) K
    refine ax_if_eq (off := 5) (tgt := 20) (x' := 1) (by decide +kernel) (by decide) (by decide +kernel) (fun hc => absurd hc (by decide)) (fun hc => ?_)
    refine aw_iconst (n := 0) (by decide +kernel) ?_
    exact aw_iret (by decide +kernel) rfl hF
  · have hF := hF.2 hc
    show AW Γ l mX12_word (d + 3) b 11 [vR 171, vI x1, vI x2, vI x3] [vI 0, vR 171] (stt (upd2 g 171 0 0)) K
    refine aw_iconst (n := 1) (by decide +kernel) ?_
    refine aw_callV (y := yX12_throwsIf) (M2 := mX12_throwsIf) (as := [vI 0, vI 1]) (S := []) (t := 171) (d2 := (d + 2)) (b2 := 0) (b3 := b) cwX12_throwsIf mlX12_279 imX12_throwsIf seX12_throwsIf (by decide +kernel) rfl (ci := 10) rfl (OB.at (ci := 10) (show shp 171 = (20, 0) by decide +kernel) (by decide)) (Nat.le_refl _) (Nat.le_of_eq (Nat.zero_add _)) rfl rfl (by simp [oneSlot]) (Nat.le_of_ble_eq_true rfl) (c_throwsIf0 ?_)
    show AW Γ l mX12_word (d + 3) b 15 [vR 171, vI x1, vI x2, vI x3] [vI 0] (stt (upd2 g 171 0 0)) K
    refine ax_if_eq (off := 5) (tgt := 20) (x' := 0) (by decide +kernel) (by decide) (by decide +kernel) (fun hc => ?_) (fun hc => absurd (by decide) hc)
    refine aw_iload_n (k' := 2) (by decide +kernel) rfl ?_
    refine aw_iconst (n := 0) (by decide +kernel) ?_
    refine aw_aload_n (k' := 0) (by decide +kernel) rfl ?_
    refine aw_iload_n (k' := 1) (by decide +kernel) rfl ?_
    refine aw_iconst (n := 0) (by decide +kernel) ?_
    refine aw_callV (y := yX12_of) (M2 := mX12_of) (as := [vI x1, vI 0]) (S := [vI 0, vI x2]) (t := 171) (d2 := (d + 2)) (b2 := 0) (b3 := b) cwX12_of mlX12_84 imX12_of seX12_of (by decide +kernel) rfl (ci := 10) rfl (OB.at (ci := 10) (show shp 171 = (20, 0) by decide +kernel) (by decide)) (Nat.le_refl _) (Nat.le_of_eq (Nat.zero_add _)) rfl rfl (by simp [oneSlot]) (Nat.le_of_ble_eq_true rfl) (c_of hF.1 ?_)
    show AW Γ l mX12_word (d + 3) b 28 [vR 171, vI x1, vI x2, vI x3] [vI (ofP (upd2 g 171 0 0) x1 0), vI 0, vI x2] (stt (upd2 g 171 0 0)) K
    replace hF := hF.2
    refine aw_iconst (n := 1) (by decide +kernel) ?_
    refine aw_isub (by decide +kernel) ?_
    refine aw_callS (y := yX12_in) (M2 := mX12_in) (as := [vI x2, vI 0, vI ((ofP (upd2 g 171 0 0) x1 0) - 1)]) (S := []) (d2 := (d + 2)) (b2 := 0) (b3 := b) cwX12_in mlX12_91 stX12_in (by decide +kernel) rfl (Nat.le_refl _) (Nat.le_of_eq (Nat.zero_add _)) rfl rfl (by simp [oneSlot]) (Nat.le_of_ble_eq_true rfl) (c_in (x' := wr x2) (y' := 0) (z' := wr ((ofP (upd2 g 171 0 0) x1 0) - 1)) rfl (by decide +kernel) rfl (fun hc => ?_) (fun hc => ?_))
    · have hF := hF.1 hc
      show AW Γ l mX12_word (d + 3) b 33 [vR 171, vI x1, vI x2, vI x3] [vI 1] (stt (upd2 g 171 0 0)) K
      refine ax_if_ne (off := 7) (tgt := 40) (x' := 1) (by decide +kernel) (by decide) (by decide +kernel) (fun hc => ?_) (fun hc => absurd (by decide) hc)
      refine aw_iload_n (k' := 3) (by decide +kernel) rfl ?_
      refine ax_if_eq (off := 12) (tgt := 53) (x' := wr x3) (by decide +kernel) (by decide) rfl (fun hc => ?_) (fun hc => ?_)
      · have hF := hF.1 hc
        refine aw_aload_n (k' := 0) (by decide +kernel) rfl ?_
        refine aw_iload_n (k' := 1) (by decide +kernel) rfl ?_
        refine aw_iload_n (k' := 2) (by decide +kernel) rfl ?_
        refine aw_callV (y := yX12_kindOf) (M2 := mX12_kindOf) (as := [vI x1, vI x2]) (S := []) (t := 171) (d2 := (d + 2)) (b2 := 0) (b3 := b) cwX12_kindOf mlX12_303 imX12_kindOf seX12_kindOf (by decide +kernel) rfl (ci := 10) rfl (OB.at (ci := 10) (show shp 171 = (20, 0) by decide +kernel) (by decide)) (Nat.le_refl _) (Nat.le_of_eq (Nat.zero_add _)) rfl rfl (by simp [oneSlot]) (Nat.le_of_ble_eq_true rfl) (c_kindOf hF.1 ?_)
        show AW Γ l mX12_word (d + 3) b 59 [vR 171, vI x1, vI x2, vI x3] [vI (ofP (upd2 g 171 0 0) x1 (5 + 2 * x2))] (stt (upd2 g 171 0 0)) K
        replace hF := hF.2
        exact aw_iret (by decide +kernel) rfl hF
      · have hF := hF.2 hc
        refine aw_aload_n (k' := 0) (by decide +kernel) rfl ?_
        refine aw_iload_n (k' := 1) (by decide +kernel) rfl ?_
        refine aw_iload_n (k' := 2) (by decide +kernel) rfl ?_
        refine aw_callV (y := yX12_numberOf) (M2 := mX12_numberOf) (as := [vI x1, vI x2]) (S := []) (t := 171) (d2 := (d + 2)) (b2 := 0) (b3 := b) cwX12_numberOf mlX12_306 imX12_numberOf seX12_numberOf (by decide +kernel) rfl (ci := 10) rfl (OB.at (ci := 10) (show shp 171 = (20, 0) by decide +kernel) (by decide)) (Nat.le_refl _) (Nat.le_of_eq (Nat.zero_add _)) rfl rfl (by simp [oneSlot]) (Nat.le_of_ble_eq_true rfl) (c_numberOf hF.1 ?_)
        show AW Γ l mX12_word (d + 3) b 50 [vR 171, vI x1, vI x2, vI x3] [vI (ofP (upd2 g 171 0 0) x1 (5 + 2 * x2 + 1))] (stt (upd2 g 171 0 0)) K
        replace hF := hF.2
        refine aw_goto (off := 9) (tgt := 59) (by decide +kernel) (by decide) ?_
        exact aw_iret (by decide +kernel) rfl hF
    · have hF := hF.2 hc
      show AW Γ l mX12_word (d + 3) b 33 [vR 171, vI x1, vI x2, vI x3] [vI 0] (stt (upd2 g 171 0 0)) K
      refine ax_if_ne (off := 7) (tgt := 40) (x' := 0) (by decide +kernel) (by decide) (by decide +kernel) (fun hc => absurd hc (by decide)) (fun hc => ?_)
      refine aw_iconst (n := -1) (by decide +kernel) ?_
      refine aw_goto (off := 22) (tgt := 59) (by decide +kernel) (by decide) ?_
      exact aw_iret (by decide +kernel) rfl hF

set_option maxHeartbeats 1000000 in
theorem wpX12_reading {Γ : Cfg} {l : Launch} {d b : Nat} {g : GG} {K : Ou → HP → Prop} {x1 : Int} {x2 : Int} {x3 : Int} (hF : (¬ (0 ≤ wr x1 ∧ wr x1 ≤ wr ((upd2 g 171 0 0) 172 0 - 1)) → K (.inl (vI 0)) (stt (upd2 (upd2 g 171 0 0) 171 0 1))) ∧ (¬ (¬ (0 ≤ wr x1 ∧ wr x1 ≤ wr ((upd2 g 171 0 0) 172 0 - 1))) → (okP x1 0) ∧ ((0 ≤ wr x2 ∧ wr x2 ≤ wr (ofP (upd2 g 171 0 0) x1 0) → (0 ≤ wr x3 ∧ wr x3 ≤ 7 → Ct Γ l (d + 1) 0 yX12_inOrder mX12_inOrder [vR 171] (stt (upd2 g 171 0 0)) (bV (fun g1 => Ct Γ l (d + 1) 0 yX12_reads mX12_reads [vR 171, vI x1, vI x2] (stt g1) (bV (fun g2 => Ct Γ l (d + 1) 0 yX12_whatRead mX12_whatRead [vR 171, vI x3] (stt g2) (bI (fun v1 g3 => K (.inl (vI v1)) (stt g3)) K)) K)) K)) ∧ (¬ (0 ≤ wr x3 ∧ wr x3 ≤ 7) → K (.inl (vI 0)) (stt (upd2 (upd2 g 171 0 0) 171 0 3)))) ∧ (¬ (0 ≤ wr x2 ∧ wr x2 ≤ wr (ofP (upd2 g 171 0 0) x1 0)) → K (.inl (vI 0)) (stt (upd2 (upd2 g 171 0 0) 171 0 2)))))) : Ct Γ l (d + 2) b yX12_reading mX12_reading [vR 171, vI x1, vI x2, vI x3] (stt g) K := by
  refine Ct.enter (L := [vR 171, vI x1, vI x2, vI x3]) rfl rfl rfl (by decide +kernel) (by simp [oneSlot]) (Nat.le_of_ble_eq_true rfl) rfl ?_
  refine aw_aload_n (k' := 0) (by decide +kernel) rfl ?_
  refine aw_iconst (n := 0) (by decide +kernel) ?_
  refine pfX12_3 rfl (by decide +kernel) (OB.at (ci := 10) (show shp 171 = (20, 0) by decide +kernel) (by decide)) ?_
  show AW Γ l mX12_reading (d + 2) b 5 [vR 171, vI x1, vI x2, vI x3] [] (stt (upd2 g 171 0 0)) K
  refine aw_aload_n (k' := 0) (by decide +kernel) rfl ?_
  refine aw_aload_n (k' := 0) (by decide +kernel) rfl ?_
  refine aw_iload_n (k' := 1) (by decide +kernel) rfl ?_
  refine aw_callV (y := yX12_noPerson) (M2 := mX12_noPerson) (as := [vI x1]) (S := [vR 171]) (t := 171) (d2 := (d + 1)) (b2 := 0) (b3 := b) cwX12_noPerson mlX12_386 imX12_noPerson seX12_noPerson (by decide +kernel) rfl (ci := 10) rfl (OB.at (ci := 10) (show shp 171 = (20, 0) by decide +kernel) (by decide)) (Nat.le_refl _) (Nat.le_of_eq (Nat.zero_add _)) rfl rfl (by simp [oneSlot]) (Nat.le_of_ble_eq_true rfl) (c_noPerson (fun hc => ?_) (fun hc => ?_))
  · have hF := hF.1 hc
    show AW Γ l mX12_reading (d + 2) b 11 [vR 171, vI x1, vI x2, vI x3] [vI 1, vR 171] (stt (upd2 g 171 0 0)) K
    refine aw_iconst (n := 1) (by decide +kernel) ?_
    refine aw_callV (y := yX12_throwsIf) (M2 := mX12_throwsIf) (as := [vI 1, vI 1]) (S := []) (t := 171) (d2 := (d + 1)) (b2 := 0) (b3 := b) cwX12_throwsIf mlX12_279 imX12_throwsIf seX12_throwsIf (by decide +kernel) rfl (ci := 10) rfl (OB.at (ci := 10) (show shp 171 = (20, 0) by decide +kernel) (by decide)) (Nat.le_refl _) (Nat.le_of_eq (Nat.zero_add _)) rfl rfl (by simp [oneSlot]) (Nat.le_of_ble_eq_true rfl) (c_throwsIf1 ?_)
    show AW Γ l mX12_reading (d + 2) b 15 [vR 171, vI x1, vI x2, vI x3] [vI 1] (stt (upd2 (upd2 g 171 0 0) 171 0 1)) K
    refine ax_if_ne (off := 53) (tgt := 68) (x' := 1) (by decide +kernel) (by decide) (by decide +kernel) (fun hc => ?_) (fun hc => absurd (by decide) hc)
    refine aw_iconst (n := 0) (by decide +kernel) ?_
    exact aw_iret (by decide +kernel) rfl hF
  · have hF := hF.2 hc
    show AW Γ l mX12_reading (d + 2) b 11 [vR 171, vI x1, vI x2, vI x3] [vI 0, vR 171] (stt (upd2 g 171 0 0)) K
    refine aw_iconst (n := 1) (by decide +kernel) ?_
    refine aw_callV (y := yX12_throwsIf) (M2 := mX12_throwsIf) (as := [vI 0, vI 1]) (S := []) (t := 171) (d2 := (d + 1)) (b2 := 0) (b3 := b) cwX12_throwsIf mlX12_279 imX12_throwsIf seX12_throwsIf (by decide +kernel) rfl (ci := 10) rfl (OB.at (ci := 10) (show shp 171 = (20, 0) by decide +kernel) (by decide)) (Nat.le_refl _) (Nat.le_of_eq (Nat.zero_add _)) rfl rfl (by simp [oneSlot]) (Nat.le_of_ble_eq_true rfl) (c_throwsIf0 ?_)
    show AW Γ l mX12_reading (d + 2) b 15 [vR 171, vI x1, vI x2, vI x3] [vI 0] (stt (upd2 g 171 0 0)) K
    refine ax_if_ne (off := 53) (tgt := 68) (x' := 0) (by decide +kernel) (by decide) (by decide +kernel) (fun hc => absurd hc (by decide)) (fun hc => ?_)
    refine aw_aload_n (k' := 0) (by decide +kernel) rfl ?_
    refine aw_iload_n (k' := 2) (by decide +kernel) rfl ?_
    refine aw_iconst (n := 0) (by decide +kernel) ?_
    refine aw_aload_n (k' := 0) (by decide +kernel) rfl ?_
    refine aw_iload_n (k' := 1) (by decide +kernel) rfl ?_
    refine aw_iconst (n := 0) (by decide +kernel) ?_
    refine aw_callV (y := yX12_of) (M2 := mX12_of) (as := [vI x1, vI 0]) (S := [vI 0, vI x2, vR 171]) (t := 171) (d2 := (d + 1)) (b2 := 0) (b3 := b) cwX12_of mlX12_84 imX12_of seX12_of (by decide +kernel) rfl (ci := 10) rfl (OB.at (ci := 10) (show shp 171 = (20, 0) by decide +kernel) (by decide)) (Nat.le_refl _) (Nat.le_of_eq (Nat.zero_add _)) rfl rfl (by simp [oneSlot]) (Nat.le_of_ble_eq_true rfl) (c_of hF.1 ?_)
    show AW Γ l mX12_reading (d + 2) b 27 [vR 171, vI x1, vI x2, vI x3] [vI (ofP (upd2 g 171 0 0) x1 0), vI 0, vI x2, vR 171] (stt (upd2 g 171 0 0)) K
    replace hF := hF.2
    refine aw_callS (y := yX12_in) (M2 := mX12_in) (as := [vI x2, vI 0, vI (ofP (upd2 g 171 0 0) x1 0)]) (S := [vR 171]) (d2 := (d + 1)) (b2 := 0) (b3 := b) cwX12_in mlX12_91 stX12_in (by decide +kernel) rfl (Nat.le_refl _) (Nat.le_of_eq (Nat.zero_add _)) rfl rfl (by simp [oneSlot]) (Nat.le_of_ble_eq_true rfl) (c_in (x' := wr x2) (y' := 0) (z' := wr (ofP (upd2 g 171 0 0) x1 0)) rfl (by decide +kernel) rfl (fun hc => ?_) (fun hc => ?_))
    · have hF := hF.1 hc
      show AW Γ l mX12_reading (d + 2) b 30 [vR 171, vI x1, vI x2, vI x3] [vI 1, vR 171] (stt (upd2 g 171 0 0)) K
      refine ax_if_ne (off := 7) (tgt := 37) (x' := 1) (by decide +kernel) (by decide) (by decide +kernel) (fun hc => ?_) (fun hc => absurd (by decide) hc)
      refine aw_iconst (n := 0) (by decide +kernel) ?_
      refine aw_iconst (n := 2) (by decide +kernel) ?_
      refine aw_callV (y := yX12_throwsIf) (M2 := mX12_throwsIf) (as := [vI 0, vI 2]) (S := []) (t := 171) (d2 := (d + 1)) (b2 := 0) (b3 := b) cwX12_throwsIf mlX12_279 imX12_throwsIf seX12_throwsIf (by decide +kernel) rfl (ci := 10) rfl (OB.at (ci := 10) (show shp 171 = (20, 0) by decide +kernel) (by decide)) (Nat.le_refl _) (Nat.le_of_eq (Nat.zero_add _)) rfl rfl (by simp [oneSlot]) (Nat.le_of_ble_eq_true rfl) (c_throwsIf0 ?_)
      show AW Γ l mX12_reading (d + 2) b 42 [vR 171, vI x1, vI x2, vI x3] [vI 0] (stt (upd2 g 171 0 0)) K
      refine ax_if_ne (off := 26) (tgt := 68) (x' := 0) (by decide +kernel) (by decide) (by decide +kernel) (fun hc => absurd hc (by decide)) (fun hc => ?_)
      refine aw_aload_n (k' := 0) (by decide +kernel) rfl ?_
      refine aw_iload_n (k' := 3) (by decide +kernel) rfl ?_
      refine aw_iconst (n := 0) (by decide +kernel) ?_
      refine aw_bipush (n := 7) (by decide +kernel) (by decide +kernel) ?_
      refine aw_callS (y := yX12_in) (M2 := mX12_in) (as := [vI x3, vI 0, vI 7]) (S := [vR 171]) (d2 := (d + 1)) (b2 := 0) (b3 := b) cwX12_in mlX12_91 stX12_in (by decide +kernel) rfl (Nat.le_refl _) (Nat.le_of_eq (Nat.zero_add _)) rfl rfl (by simp [oneSlot]) (Nat.le_of_ble_eq_true rfl) (c_in (x' := wr x3) (y' := 0) (z' := 7) rfl (by decide +kernel) (by decide +kernel) (fun hc => ?_) (fun hc => ?_))
      · have hF := hF.1 hc
        show AW Γ l mX12_reading (d + 2) b 53 [vR 171, vI x1, vI x2, vI x3] [vI 1, vR 171] (stt (upd2 g 171 0 0)) K
        refine ax_if_ne (off := 7) (tgt := 60) (x' := 1) (by decide +kernel) (by decide) (by decide +kernel) (fun hc => ?_) (fun hc => absurd (by decide) hc)
        refine aw_iconst (n := 0) (by decide +kernel) ?_
        refine aw_iconst (n := 3) (by decide +kernel) ?_
        refine aw_callV (y := yX12_throwsIf) (M2 := mX12_throwsIf) (as := [vI 0, vI 3]) (S := []) (t := 171) (d2 := (d + 1)) (b2 := 0) (b3 := b) cwX12_throwsIf mlX12_279 imX12_throwsIf seX12_throwsIf (by decide +kernel) rfl (ci := 10) rfl (OB.at (ci := 10) (show shp 171 = (20, 0) by decide +kernel) (by decide)) (Nat.le_refl _) (Nat.le_of_eq (Nat.zero_add _)) rfl rfl (by simp [oneSlot]) (Nat.le_of_ble_eq_true rfl) (c_throwsIf0 ?_)
        show AW Γ l mX12_reading (d + 2) b 65 [vR 171, vI x1, vI x2, vI x3] [vI 0] (stt (upd2 g 171 0 0)) K
        refine ax_if_eq (off := 5) (tgt := 70) (x' := 0) (by decide +kernel) (by decide) (by decide +kernel) (fun hc => ?_) (fun hc => absurd (by decide) hc)
        refine aw_aload_n (k' := 0) (by decide +kernel) rfl ?_
        refine aw_callV (y := yX12_inOrder) (M2 := mX12_inOrder) (as := []) (S := []) (t := 171) (d2 := (d + 1)) (b2 := 0) (b3 := b) cwX12_inOrder mlX12_377 imX12_inOrder seX12_inOrder (by decide +kernel) rfl (ci := 10) rfl (OB.at (ci := 10) (show shp 171 = (20, 0) by decide +kernel) (by decide)) (Nat.le_refl _) (Nat.le_of_eq (Nat.zero_add _)) rfl rfl (by simp [oneSlot]) (Nat.le_of_ble_eq_true rfl) (Ct.mono hF ?_)
        rintro o h' (⟨g1, rfl, rfl, hG⟩ | ⟨E, g, rfl, rfl, hG⟩)
        · show AW Γ l mX12_reading (d + 2) b 74 [vR 171, vI x1, vI x2, vI x3] [] (stt g1) K
          refine aw_aload_n (k' := 0) (by decide +kernel) rfl ?_
          refine aw_iload_n (k' := 1) (by decide +kernel) rfl ?_
          refine aw_iload_n (k' := 2) (by decide +kernel) rfl ?_
          refine aw_callV (y := yX12_reads) (M2 := mX12_reads) (as := [vI x1, vI x2]) (S := []) (t := 171) (d2 := (d + 1)) (b2 := 0) (b3 := b) cwX12_reads mlX12_336 imX12_reads seX12_reads (by decide +kernel) rfl (ci := 10) rfl (OB.at (ci := 10) (show shp 171 = (20, 0) by decide +kernel) (by decide)) (Nat.le_refl _) (Nat.le_of_eq (Nat.zero_add _)) rfl rfl (by simp [oneSlot]) (Nat.le_of_ble_eq_true rfl) (Ct.mono hG ?_)
          rintro o h' (⟨g2, rfl, rfl, hG⟩ | ⟨E, g, rfl, rfl, hG⟩)
          · show AW Γ l mX12_reading (d + 2) b 80 [vR 171, vI x1, vI x2, vI x3] [] (stt g2) K
            refine aw_aload_n (k' := 0) (by decide +kernel) rfl ?_
            refine aw_iload_n (k' := 3) (by decide +kernel) rfl ?_
            refine aw_callV (y := yX12_whatRead) (M2 := mX12_whatRead) (as := [vI x3]) (S := []) (t := 171) (d2 := (d + 1)) (b2 := 0) (b3 := b) cwX12_whatRead mlX12_405 imX12_whatRead seX12_whatRead (by decide +kernel) rfl (ci := 10) rfl (OB.at (ci := 10) (show shp 171 = (20, 0) by decide +kernel) (by decide)) (Nat.le_refl _) (Nat.le_of_eq (Nat.zero_add _)) rfl rfl (by simp [oneSlot]) (Nat.le_of_ble_eq_true rfl) (Ct.mono hG ?_)
            rintro o h' (⟨v1, g3, rfl, rfl, hG⟩ | ⟨E, g, rfl, rfl, hG⟩)
            · show AW Γ l mX12_reading (d + 2) b 85 [vR 171, vI x1, vI x2, vI x3] [vI v1] (stt g3) K
              exact aw_iret (by decide +kernel) rfl hG
            · exact hG
          · exact hG
        · exact hG
      · have hF := hF.2 hc
        show AW Γ l mX12_reading (d + 2) b 53 [vR 171, vI x1, vI x2, vI x3] [vI 0, vR 171] (stt (upd2 g 171 0 0)) K
        refine ax_if_ne (off := 7) (tgt := 60) (x' := 0) (by decide +kernel) (by decide) (by decide +kernel) (fun hc => absurd hc (by decide)) (fun hc => ?_)
        refine aw_iconst (n := 1) (by decide +kernel) ?_
        refine aw_goto (off := 4) (tgt := 61) (by decide +kernel) (by decide) ?_
        refine aw_iconst (n := 3) (by decide +kernel) ?_
        refine aw_callV (y := yX12_throwsIf) (M2 := mX12_throwsIf) (as := [vI 1, vI 3]) (S := []) (t := 171) (d2 := (d + 1)) (b2 := 0) (b3 := b) cwX12_throwsIf mlX12_279 imX12_throwsIf seX12_throwsIf (by decide +kernel) rfl (ci := 10) rfl (OB.at (ci := 10) (show shp 171 = (20, 0) by decide +kernel) (by decide)) (Nat.le_refl _) (Nat.le_of_eq (Nat.zero_add _)) rfl rfl (by simp [oneSlot]) (Nat.le_of_ble_eq_true rfl) (c_throwsIf1 ?_)
        show AW Γ l mX12_reading (d + 2) b 65 [vR 171, vI x1, vI x2, vI x3] [vI 1] (stt (upd2 (upd2 g 171 0 0) 171 0 3)) K
        refine ax_if_eq (off := 5) (tgt := 70) (x' := 1) (by decide +kernel) (by decide) (by decide +kernel) (fun hc => absurd hc (by decide)) (fun hc => ?_)
        refine aw_iconst (n := 0) (by decide +kernel) ?_
        exact aw_iret (by decide +kernel) rfl hF
    · have hF := hF.2 hc
      show AW Γ l mX12_reading (d + 2) b 30 [vR 171, vI x1, vI x2, vI x3] [vI 0, vR 171] (stt (upd2 g 171 0 0)) K
      refine ax_if_ne (off := 7) (tgt := 37) (x' := 0) (by decide +kernel) (by decide) (by decide +kernel) (fun hc => absurd hc (by decide)) (fun hc => ?_)
      refine aw_iconst (n := 1) (by decide +kernel) ?_
      refine aw_goto (off := 4) (tgt := 38) (by decide +kernel) (by decide) ?_
      refine aw_iconst (n := 2) (by decide +kernel) ?_
      refine aw_callV (y := yX12_throwsIf) (M2 := mX12_throwsIf) (as := [vI 1, vI 2]) (S := []) (t := 171) (d2 := (d + 1)) (b2 := 0) (b3 := b) cwX12_throwsIf mlX12_279 imX12_throwsIf seX12_throwsIf (by decide +kernel) rfl (ci := 10) rfl (OB.at (ci := 10) (show shp 171 = (20, 0) by decide +kernel) (by decide)) (Nat.le_refl _) (Nat.le_of_eq (Nat.zero_add _)) rfl rfl (by simp [oneSlot]) (Nat.le_of_ble_eq_true rfl) (c_throwsIf1 ?_)
      show AW Γ l mX12_reading (d + 2) b 42 [vR 171, vI x1, vI x2, vI x3] [vI 1] (stt (upd2 (upd2 g 171 0 0) 171 0 2)) K
      refine ax_if_ne (off := 26) (tgt := 68) (x' := 1) (by decide +kernel) (by decide) (by decide +kernel) (fun hc => ?_) (fun hc => absurd (by decide) hc)
      refine aw_iconst (n := 0) (by decide +kernel) ?_
      exact aw_iret (by decide +kernel) rfl hF

set_option maxHeartbeats 1000000 in
theorem wpX12_hold {Γ : Cfg} {l : Launch} {d b : Nat} {g : GG} {K : Ou → HP → Prop} {x1 : Int} {x2 : Int} (hF : (¬ (0 ≤ wr x1 ∧ wr x1 ≤ wr ((upd2 g 171 0 0) 172 0 - 1)) → K (.inl (vI 0)) (stt (upd2 (upd2 g 171 0 0) 171 0 1))) ∧ (¬ (¬ (0 ≤ wr x1 ∧ wr x1 ≤ wr ((upd2 g 171 0 0) 172 0 - 1))) → (0 ≤ wr x2 ∧ wr x2 ≤ 7 → Ct Γ l (d + 1) 0 yX12_inOrder mX12_inOrder [vR 171] (stt (upd2 g 171 0 0)) (bV (fun g1 => Ct Γ l (d + 1) 0 yX12_countsOf mX12_countsOf [vR 171, vI x1] (stt g1) (bI (fun v1 g2 => Ct Γ l (d + 1) 0 yX12_reads mX12_reads [vR 171, vI x1, vI v1] (stt g2) (bV (fun g3 => Ct Γ l (d + 1) 0 yX12_whatRead mX12_whatRead [vR 171, vI x2] (stt g3) (bI (fun v2 g4 => K (.inl (vI v2)) (stt g4)) K)) K)) K)) K)) ∧ (¬ (0 ≤ wr x2 ∧ wr x2 ≤ 7) → K (.inl (vI 0)) (stt (upd2 (upd2 g 171 0 0) 171 0 2))))) : Ct Γ l (d + 2) b yX12_hold mX12_hold [vR 171, vI x1, vI x2] (stt g) K := by
  refine Ct.enter (L := [vR 171, vI x1, vI x2]) rfl rfl rfl (by decide +kernel) (by simp [oneSlot]) (Nat.le_of_ble_eq_true rfl) rfl ?_
  refine aw_aload_n (k' := 0) (by decide +kernel) rfl ?_
  refine aw_iconst (n := 0) (by decide +kernel) ?_
  refine pfX12_3 rfl (by decide +kernel) (OB.at (ci := 10) (show shp 171 = (20, 0) by decide +kernel) (by decide)) ?_
  show AW Γ l mX12_hold (d + 2) b 5 [vR 171, vI x1, vI x2] [] (stt (upd2 g 171 0 0)) K
  refine aw_aload_n (k' := 0) (by decide +kernel) rfl ?_
  refine aw_aload_n (k' := 0) (by decide +kernel) rfl ?_
  refine aw_iload_n (k' := 1) (by decide +kernel) rfl ?_
  refine aw_callV (y := yX12_noPerson) (M2 := mX12_noPerson) (as := [vI x1]) (S := [vR 171]) (t := 171) (d2 := (d + 1)) (b2 := 0) (b3 := b) cwX12_noPerson mlX12_386 imX12_noPerson seX12_noPerson (by decide +kernel) rfl (ci := 10) rfl (OB.at (ci := 10) (show shp 171 = (20, 0) by decide +kernel) (by decide)) (Nat.le_refl _) (Nat.le_of_eq (Nat.zero_add _)) rfl rfl (by simp [oneSlot]) (Nat.le_of_ble_eq_true rfl) (c_noPerson (fun hc => ?_) (fun hc => ?_))
  · have hF := hF.1 hc
    show AW Γ l mX12_hold (d + 2) b 11 [vR 171, vI x1, vI x2] [vI 1, vR 171] (stt (upd2 g 171 0 0)) K
    refine aw_iconst (n := 1) (by decide +kernel) ?_
    refine aw_callV (y := yX12_throwsIf) (M2 := mX12_throwsIf) (as := [vI 1, vI 1]) (S := []) (t := 171) (d2 := (d + 1)) (b2 := 0) (b3 := b) cwX12_throwsIf mlX12_279 imX12_throwsIf seX12_throwsIf (by decide +kernel) rfl (ci := 10) rfl (OB.at (ci := 10) (show shp 171 = (20, 0) by decide +kernel) (by decide)) (Nat.le_refl _) (Nat.le_of_eq (Nat.zero_add _)) rfl rfl (by simp [oneSlot]) (Nat.le_of_ble_eq_true rfl) (c_throwsIf1 ?_)
    show AW Γ l mX12_hold (d + 2) b 15 [vR 171, vI x1, vI x2] [vI 1] (stt (upd2 (upd2 g 171 0 0) 171 0 1)) K
    refine ax_if_ne (off := 26) (tgt := 41) (x' := 1) (by decide +kernel) (by decide) (by decide +kernel) (fun hc => ?_) (fun hc => absurd (by decide) hc)
    refine aw_iconst (n := 0) (by decide +kernel) ?_
    exact aw_iret (by decide +kernel) rfl hF
  · have hF := hF.2 hc
    show AW Γ l mX12_hold (d + 2) b 11 [vR 171, vI x1, vI x2] [vI 0, vR 171] (stt (upd2 g 171 0 0)) K
    refine aw_iconst (n := 1) (by decide +kernel) ?_
    refine aw_callV (y := yX12_throwsIf) (M2 := mX12_throwsIf) (as := [vI 0, vI 1]) (S := []) (t := 171) (d2 := (d + 1)) (b2 := 0) (b3 := b) cwX12_throwsIf mlX12_279 imX12_throwsIf seX12_throwsIf (by decide +kernel) rfl (ci := 10) rfl (OB.at (ci := 10) (show shp 171 = (20, 0) by decide +kernel) (by decide)) (Nat.le_refl _) (Nat.le_of_eq (Nat.zero_add _)) rfl rfl (by simp [oneSlot]) (Nat.le_of_ble_eq_true rfl) (c_throwsIf0 ?_)
    show AW Γ l mX12_hold (d + 2) b 15 [vR 171, vI x1, vI x2] [vI 0] (stt (upd2 g 171 0 0)) K
    refine ax_if_ne (off := 26) (tgt := 41) (x' := 0) (by decide +kernel) (by decide) (by decide +kernel) (fun hc => absurd hc (by decide)) (fun hc => ?_)
    refine aw_aload_n (k' := 0) (by decide +kernel) rfl ?_
    refine aw_iload_n (k' := 2) (by decide +kernel) rfl ?_
    refine aw_iconst (n := 0) (by decide +kernel) ?_
    refine aw_bipush (n := 7) (by decide +kernel) (by decide +kernel) ?_
    refine aw_callS (y := yX12_in) (M2 := mX12_in) (as := [vI x2, vI 0, vI 7]) (S := [vR 171]) (d2 := (d + 1)) (b2 := 0) (b3 := b) cwX12_in mlX12_91 stX12_in (by decide +kernel) rfl (Nat.le_refl _) (Nat.le_of_eq (Nat.zero_add _)) rfl rfl (by simp [oneSlot]) (Nat.le_of_ble_eq_true rfl) (c_in (x' := wr x2) (y' := 0) (z' := 7) rfl (by decide +kernel) (by decide +kernel) (fun hc => ?_) (fun hc => ?_))
    · have hF := hF.1 hc
      show AW Γ l mX12_hold (d + 2) b 26 [vR 171, vI x1, vI x2] [vI 1, vR 171] (stt (upd2 g 171 0 0)) K
      refine ax_if_ne (off := 7) (tgt := 33) (x' := 1) (by decide +kernel) (by decide) (by decide +kernel) (fun hc => ?_) (fun hc => absurd (by decide) hc)
      refine aw_iconst (n := 0) (by decide +kernel) ?_
      refine aw_iconst (n := 2) (by decide +kernel) ?_
      refine aw_callV (y := yX12_throwsIf) (M2 := mX12_throwsIf) (as := [vI 0, vI 2]) (S := []) (t := 171) (d2 := (d + 1)) (b2 := 0) (b3 := b) cwX12_throwsIf mlX12_279 imX12_throwsIf seX12_throwsIf (by decide +kernel) rfl (ci := 10) rfl (OB.at (ci := 10) (show shp 171 = (20, 0) by decide +kernel) (by decide)) (Nat.le_refl _) (Nat.le_of_eq (Nat.zero_add _)) rfl rfl (by simp [oneSlot]) (Nat.le_of_ble_eq_true rfl) (c_throwsIf0 ?_)
      show AW Γ l mX12_hold (d + 2) b 38 [vR 171, vI x1, vI x2] [vI 0] (stt (upd2 g 171 0 0)) K
      refine ax_if_eq (off := 5) (tgt := 43) (x' := 0) (by decide +kernel) (by decide) (by decide +kernel) (fun hc => ?_) (fun hc => absurd (by decide) hc)
      refine aw_aload_n (k' := 0) (by decide +kernel) rfl ?_
      refine aw_callV (y := yX12_inOrder) (M2 := mX12_inOrder) (as := []) (S := []) (t := 171) (d2 := (d + 1)) (b2 := 0) (b3 := b) cwX12_inOrder mlX12_377 imX12_inOrder seX12_inOrder (by decide +kernel) rfl (ci := 10) rfl (OB.at (ci := 10) (show shp 171 = (20, 0) by decide +kernel) (by decide)) (Nat.le_refl _) (Nat.le_of_eq (Nat.zero_add _)) rfl rfl (by simp [oneSlot]) (Nat.le_of_ble_eq_true rfl) (Ct.mono hF ?_)
      rintro o h' (⟨g1, rfl, rfl, hG⟩ | ⟨E, g, rfl, rfl, hG⟩)
      · show AW Γ l mX12_hold (d + 2) b 47 [vR 171, vI x1, vI x2] [] (stt g1) K
        refine aw_aload_n (k' := 0) (by decide +kernel) rfl ?_
        refine aw_iload_n (k' := 1) (by decide +kernel) rfl ?_
        refine aw_aload_n (k' := 0) (by decide +kernel) rfl ?_
        refine aw_iload_n (k' := 1) (by decide +kernel) rfl ?_
        refine aw_callV (y := yX12_countsOf) (M2 := mX12_countsOf) (as := [vI x1]) (S := [vI x1, vR 171]) (t := 171) (d2 := (d + 1)) (b2 := 0) (b3 := b) cwX12_countsOf mlX12_380 imX12_countsOf seX12_countsOf (by decide +kernel) rfl (ci := 10) rfl (OB.at (ci := 10) (show shp 171 = (20, 0) by decide +kernel) (by decide)) (Nat.le_refl _) (Nat.le_of_eq (Nat.zero_add _)) rfl rfl (by simp [oneSlot]) (Nat.le_of_ble_eq_true rfl) (Ct.mono hG ?_)
        rintro o h' (⟨v1, g2, rfl, rfl, hG⟩ | ⟨E, g, rfl, rfl, hG⟩)
        · show AW Γ l mX12_hold (d + 2) b 54 [vR 171, vI x1, vI x2] [vI v1, vI x1, vR 171] (stt g2) K
          refine aw_callV (y := yX12_reads) (M2 := mX12_reads) (as := [vI x1, vI v1]) (S := []) (t := 171) (d2 := (d + 1)) (b2 := 0) (b3 := b) cwX12_reads mlX12_336 imX12_reads seX12_reads (by decide +kernel) rfl (ci := 10) rfl (OB.at (ci := 10) (show shp 171 = (20, 0) by decide +kernel) (by decide)) (Nat.le_refl _) (Nat.le_of_eq (Nat.zero_add _)) rfl rfl (by simp [oneSlot]) (Nat.le_of_ble_eq_true rfl) (Ct.mono hG ?_)
          rintro o h' (⟨g3, rfl, rfl, hG⟩ | ⟨E, g, rfl, rfl, hG⟩)
          · show AW Γ l mX12_hold (d + 2) b 57 [vR 171, vI x1, vI x2] [] (stt g3) K
            refine aw_aload_n (k' := 0) (by decide +kernel) rfl ?_
            refine aw_iload_n (k' := 2) (by decide +kernel) rfl ?_
            refine aw_callV (y := yX12_whatRead) (M2 := mX12_whatRead) (as := [vI x2]) (S := []) (t := 171) (d2 := (d + 1)) (b2 := 0) (b3 := b) cwX12_whatRead mlX12_405 imX12_whatRead seX12_whatRead (by decide +kernel) rfl (ci := 10) rfl (OB.at (ci := 10) (show shp 171 = (20, 0) by decide +kernel) (by decide)) (Nat.le_refl _) (Nat.le_of_eq (Nat.zero_add _)) rfl rfl (by simp [oneSlot]) (Nat.le_of_ble_eq_true rfl) (Ct.mono hG ?_)
            rintro o h' (⟨v2, g4, rfl, rfl, hG⟩ | ⟨E, g, rfl, rfl, hG⟩)
            · show AW Γ l mX12_hold (d + 2) b 62 [vR 171, vI x1, vI x2] [vI v2] (stt g4) K
              exact aw_iret (by decide +kernel) rfl hG
            · exact hG
          · exact hG
        · exact hG
      · exact hG
    · have hF := hF.2 hc
      show AW Γ l mX12_hold (d + 2) b 26 [vR 171, vI x1, vI x2] [vI 0, vR 171] (stt (upd2 g 171 0 0)) K
      refine ax_if_ne (off := 7) (tgt := 33) (x' := 0) (by decide +kernel) (by decide) (by decide +kernel) (fun hc => absurd hc (by decide)) (fun hc => ?_)
      refine aw_iconst (n := 1) (by decide +kernel) ?_
      refine aw_goto (off := 4) (tgt := 34) (by decide +kernel) (by decide) ?_
      refine aw_iconst (n := 2) (by decide +kernel) ?_
      refine aw_callV (y := yX12_throwsIf) (M2 := mX12_throwsIf) (as := [vI 1, vI 2]) (S := []) (t := 171) (d2 := (d + 1)) (b2 := 0) (b3 := b) cwX12_throwsIf mlX12_279 imX12_throwsIf seX12_throwsIf (by decide +kernel) rfl (ci := 10) rfl (OB.at (ci := 10) (show shp 171 = (20, 0) by decide +kernel) (by decide)) (Nat.le_refl _) (Nat.le_of_eq (Nat.zero_add _)) rfl rfl (by simp [oneSlot]) (Nat.le_of_ble_eq_true rfl) (c_throwsIf1 ?_)
      show AW Γ l mX12_hold (d + 2) b 38 [vR 171, vI x1, vI x2] [vI 1] (stt (upd2 (upd2 g 171 0 0) 171 0 2)) K
      refine ax_if_eq (off := 5) (tgt := 43) (x' := 1) (by decide +kernel) (by decide) (by decide +kernel) (fun hc => absurd hc (by decide)) (fun hc => ?_)
      refine aw_iconst (n := 0) (by decide +kernel) ?_
      exact aw_iret (by decide +kernel) rfl hF

set_option maxHeartbeats 1000000 in
theorem wpX12_mode {Γ : Cfg} {l : Launch} {d b : Nat} {g : GG} {K : Ou → HP → Prop} {x1 : Int} (hF : (0 ≤ wr x1 ∧ wr x1 ≤ 3 → (0 ≤ wr (8 + x1) ∧ wr (8 + x1) < 2184) ∧ (K (.inl (vI ((upd2 g 171 0 0) 172 (wr (8 + x1))))) (stt (upd2 g 171 0 0)))) ∧ (¬ (0 ≤ wr x1 ∧ wr x1 ≤ 3) → K (.inl (vI 0)) (stt (upd2 (upd2 g 171 0 0) 171 0 1)))) : Ct Γ l (d + 1) b yX12_mode mX12_mode [vR 171, vI x1] (stt g) K := by
  refine Ct.enter (L := [vR 171, vI x1]) rfl rfl rfl (by decide +kernel) (by simp [oneSlot]) (Nat.le_of_ble_eq_true rfl) rfl ?_
  refine aw_aload_n (k' := 0) (by decide +kernel) rfl ?_
  refine aw_iconst (n := 0) (by decide +kernel) ?_
  refine pfX12_3 rfl (by decide +kernel) (OB.at (ci := 10) (show shp 171 = (20, 0) by decide +kernel) (by decide)) ?_
  show AW Γ l mX12_mode (d + 1) b 5 [vR 171, vI x1] [] (stt (upd2 g 171 0 0)) K
  refine aw_aload_n (k' := 0) (by decide +kernel) rfl ?_
  refine aw_iload_n (k' := 1) (by decide +kernel) rfl ?_
  refine aw_iconst (n := 0) (by decide +kernel) ?_
  refine aw_iconst (n := 3) (by decide +kernel) ?_
  refine aw_callS (y := yX12_in) (M2 := mX12_in) (as := [vI x1, vI 0, vI 3]) (S := [vR 171]) (d2 := d) (b2 := 0) (b3 := b) cwX12_in mlX12_91 stX12_in (by decide +kernel) rfl (Nat.le_refl _) (Nat.le_of_eq (Nat.zero_add _)) rfl rfl (by simp [oneSlot]) (Nat.le_of_ble_eq_true rfl) (c_in (x' := wr x1) (y' := 0) (z' := 3) rfl (by decide +kernel) (by decide +kernel) (fun hc => ?_) (fun hc => ?_))
  · have hF := hF.1 hc
    show AW Γ l mX12_mode (d + 1) b 12 [vR 171, vI x1] [vI 1, vR 171] (stt (upd2 g 171 0 0)) K
    refine ax_if_ne (off := 7) (tgt := 19) (x' := 1) (by decide +kernel) (by decide) (by decide +kernel) (fun hc => ?_) (fun hc => absurd (by decide) hc)
    refine aw_iconst (n := 0) (by decide +kernel) ?_
    refine aw_iconst (n := 1) (by decide +kernel) ?_
    refine aw_callV (y := yX12_throwsIf) (M2 := mX12_throwsIf) (as := [vI 0, vI 1]) (S := []) (t := 171) (d2 := d) (b2 := 0) (b3 := b) cwX12_throwsIf mlX12_279 imX12_throwsIf seX12_throwsIf (by decide +kernel) rfl (ci := 10) rfl (OB.at (ci := 10) (show shp 171 = (20, 0) by decide +kernel) (by decide)) (Nat.le_refl _) (Nat.le_of_eq (Nat.zero_add _)) rfl rfl (by simp [oneSlot]) (Nat.le_of_ble_eq_true rfl) (c_throwsIf0 ?_)
    show AW Γ l mX12_mode (d + 1) b 24 [vR 171, vI x1] [vI 0] (stt (upd2 g 171 0 0)) K
    refine ax_if_eq (off := 7) (tgt := 31) (x' := 0) (by decide +kernel) (by decide) (by decide +kernel) (fun hc => ?_) (fun hc => absurd (by decide) hc)
    refine aw_aload_n (k' := 0) (by decide +kernel) rfl ?_
    refine gfX12_13 rfl (by decide +kernel) (OB.at (ci := 10) (show shp 171 = (20, 0) by decide +kernel) (by decide)) ?_
    refine AW.topR (show RC 171 1 = 172 by decide +kernel) ?_
    refine aw_bipush (n := 8) (by decide +kernel) (by decide +kernel) ?_
    refine aw_iload_n (k' := 1) (by decide +kernel) rfl ?_
    refine aw_iadd (by decide +kernel) ?_
    refine ax_iald (i := wr (8 + x1)) (by decide +kernel) (isA_lit (show shp 172 = (0, 2184) by decide +kernel) (by decide)) rfl hF.1 ?_
    replace hF := hF.2
    exact aw_iret (by decide +kernel) rfl hF
  · have hF := hF.2 hc
    show AW Γ l mX12_mode (d + 1) b 12 [vR 171, vI x1] [vI 0, vR 171] (stt (upd2 g 171 0 0)) K
    refine ax_if_ne (off := 7) (tgt := 19) (x' := 0) (by decide +kernel) (by decide) (by decide +kernel) (fun hc => absurd hc (by decide)) (fun hc => ?_)
    refine aw_iconst (n := 1) (by decide +kernel) ?_
    refine aw_goto (off := 4) (tgt := 20) (by decide +kernel) (by decide) ?_
    refine aw_iconst (n := 1) (by decide +kernel) ?_
    refine aw_callV (y := yX12_throwsIf) (M2 := mX12_throwsIf) (as := [vI 1, vI 1]) (S := []) (t := 171) (d2 := d) (b2 := 0) (b3 := b) cwX12_throwsIf mlX12_279 imX12_throwsIf seX12_throwsIf (by decide +kernel) rfl (ci := 10) rfl (OB.at (ci := 10) (show shp 171 = (20, 0) by decide +kernel) (by decide)) (Nat.le_refl _) (Nat.le_of_eq (Nat.zero_add _)) rfl rfl (by simp [oneSlot]) (Nat.le_of_ble_eq_true rfl) (c_throwsIf1 ?_)
    show AW Γ l mX12_mode (d + 1) b 24 [vR 171, vI x1] [vI 1] (stt (upd2 (upd2 g 171 0 0) 171 0 1)) K
    refine ax_if_eq (off := 7) (tgt := 31) (x' := 1) (by decide +kernel) (by decide) (by decide +kernel) (fun hc => absurd hc (by decide)) (fun hc => ?_)
    refine aw_iconst (n := 0) (by decide +kernel) ?_
    refine aw_goto (off := 12) (tgt := 40) (by decide +kernel) (by decide) ?_
    exact aw_iret (by decide +kernel) rfl hF

set_option maxHeartbeats 1000000 in
theorem wpX12_hours {Γ : Cfg} {l : Launch} {d b : Nat} {g : GG} {K : Ou → HP → Prop} {x1 : Int} (hF : (1 ≤ wr x1 ∧ wr x1 ≤ 60 → Ct Γ l d 0 yX12_remembers mX12_remembers [vR 171] (stt (upd2 g 171 0 0)) (bV (fun g1 => Ct Γ l d 0 yX12_inOrder mX12_inOrder [vR 171] (stt g1) (bV (fun g2 => Ct Γ l d 0 yX12_goesOn mX12_goesOn [vR 171, vI x1] (stt g2) (bI (fun v1 g3 => K (.inl (vI v1)) (stt g3)) K)) K)) K)) ∧ (¬ (1 ≤ wr x1 ∧ wr x1 ≤ 60) → K (.inl (vI 0)) (stt (upd2 (upd2 g 171 0 0) 171 0 1)))) : Ct Γ l (d + 1) b yX12_hours mX12_hours [vR 171, vI x1] (stt g) K := by
  refine Ct.enter (L := [vR 171, vI x1]) rfl rfl rfl (by decide +kernel) (by simp [oneSlot]) (Nat.le_of_ble_eq_true rfl) rfl ?_
  refine aw_aload_n (k' := 0) (by decide +kernel) rfl ?_
  refine aw_iconst (n := 0) (by decide +kernel) ?_
  refine pfX12_3 rfl (by decide +kernel) (OB.at (ci := 10) (show shp 171 = (20, 0) by decide +kernel) (by decide)) ?_
  show AW Γ l mX12_hours (d + 1) b 5 [vR 171, vI x1] [] (stt (upd2 g 171 0 0)) K
  refine aw_aload_n (k' := 0) (by decide +kernel) rfl ?_
  refine aw_iload_n (k' := 1) (by decide +kernel) rfl ?_
  refine aw_iconst (n := 1) (by decide +kernel) ?_
  refine aw_bipush (n := 60) (by decide +kernel) (by decide +kernel) ?_
  refine aw_callS (y := yX12_in) (M2 := mX12_in) (as := [vI x1, vI 1, vI 60]) (S := [vR 171]) (d2 := d) (b2 := 0) (b3 := b) cwX12_in mlX12_91 stX12_in (by decide +kernel) rfl (Nat.le_refl _) (Nat.le_of_eq (Nat.zero_add _)) rfl rfl (by simp [oneSlot]) (Nat.le_of_ble_eq_true rfl) (c_in (x' := wr x1) (y' := 1) (z' := 60) rfl (by decide +kernel) (by decide +kernel) (fun hc => ?_) (fun hc => ?_))
  · have hF := hF.1 hc
    show AW Γ l mX12_hours (d + 1) b 13 [vR 171, vI x1] [vI 1, vR 171] (stt (upd2 g 171 0 0)) K
    refine ax_if_ne (off := 7) (tgt := 20) (x' := 1) (by decide +kernel) (by decide) (by decide +kernel) (fun hc => ?_) (fun hc => absurd (by decide) hc)
    refine aw_iconst (n := 0) (by decide +kernel) ?_
    refine aw_iconst (n := 1) (by decide +kernel) ?_
    refine aw_callV (y := yX12_throwsIf) (M2 := mX12_throwsIf) (as := [vI 0, vI 1]) (S := []) (t := 171) (d2 := d) (b2 := 0) (b3 := b) cwX12_throwsIf mlX12_279 imX12_throwsIf seX12_throwsIf (by decide +kernel) rfl (ci := 10) rfl (OB.at (ci := 10) (show shp 171 = (20, 0) by decide +kernel) (by decide)) (Nat.le_refl _) (Nat.le_of_eq (Nat.zero_add _)) rfl rfl (by simp [oneSlot]) (Nat.le_of_ble_eq_true rfl) (c_throwsIf0 ?_)
    show AW Γ l mX12_hours (d + 1) b 25 [vR 171, vI x1] [vI 0] (stt (upd2 g 171 0 0)) K
    refine ax_if_eq (off := 5) (tgt := 30) (x' := 0) (by decide +kernel) (by decide) (by decide +kernel) (fun hc => ?_) (fun hc => absurd (by decide) hc)
    refine aw_aload_n (k' := 0) (by decide +kernel) rfl ?_
    refine aw_callV (y := yX12_remembers) (M2 := mX12_remembers) (as := []) (S := []) (t := 171) (d2 := d) (b2 := 0) (b3 := b) cwX12_remembers mlX12_408 imX12_remembers seX12_remembers (by decide +kernel) rfl (ci := 10) rfl (OB.at (ci := 10) (show shp 171 = (20, 0) by decide +kernel) (by decide)) (Nat.le_refl _) (Nat.le_of_eq (Nat.zero_add _)) rfl rfl (by simp [oneSlot]) (Nat.le_of_ble_eq_true rfl) (Ct.mono hF ?_)
    rintro o h' (⟨g1, rfl, rfl, hG⟩ | ⟨E, g, rfl, rfl, hG⟩)
    · show AW Γ l mX12_hours (d + 1) b 34 [vR 171, vI x1] [] (stt g1) K
      refine aw_aload_n (k' := 0) (by decide +kernel) rfl ?_
      refine aw_callV (y := yX12_inOrder) (M2 := mX12_inOrder) (as := []) (S := []) (t := 171) (d2 := d) (b2 := 0) (b3 := b) cwX12_inOrder mlX12_377 imX12_inOrder seX12_inOrder (by decide +kernel) rfl (ci := 10) rfl (OB.at (ci := 10) (show shp 171 = (20, 0) by decide +kernel) (by decide)) (Nat.le_refl _) (Nat.le_of_eq (Nat.zero_add _)) rfl rfl (by simp [oneSlot]) (Nat.le_of_ble_eq_true rfl) (Ct.mono hG ?_)
      rintro o h' (⟨g2, rfl, rfl, hG⟩ | ⟨E, g, rfl, rfl, hG⟩)
      · show AW Γ l mX12_hours (d + 1) b 38 [vR 171, vI x1] [] (stt g2) K
        refine aw_aload_n (k' := 0) (by decide +kernel) rfl ?_
        refine aw_iload_n (k' := 1) (by decide +kernel) rfl ?_
        refine aw_callV (y := yX12_goesOn) (M2 := mX12_goesOn) (as := [vI x1]) (S := []) (t := 171) (d2 := d) (b2 := 0) (b3 := b) cwX12_goesOn mlX12_411 imX12_goesOn seX12_goesOn (by decide +kernel) rfl (ci := 10) rfl (OB.at (ci := 10) (show shp 171 = (20, 0) by decide +kernel) (by decide)) (Nat.le_refl _) (Nat.le_of_eq (Nat.zero_add _)) rfl rfl (by simp [oneSlot]) (Nat.le_of_ble_eq_true rfl) (Ct.mono hG ?_)
        rintro o h' (⟨v1, g3, rfl, rfl, hG⟩ | ⟨E, g, rfl, rfl, hG⟩)
        · show AW Γ l mX12_hours (d + 1) b 43 [vR 171, vI x1] [vI v1] (stt g3) K
          exact aw_iret (by decide +kernel) rfl hG
        · exact hG
      · exact hG
    · exact hG
  · have hF := hF.2 hc
    show AW Γ l mX12_hours (d + 1) b 13 [vR 171, vI x1] [vI 0, vR 171] (stt (upd2 g 171 0 0)) K
    refine ax_if_ne (off := 7) (tgt := 20) (x' := 0) (by decide +kernel) (by decide) (by decide +kernel) (fun hc => absurd hc (by decide)) (fun hc => ?_)
    refine aw_iconst (n := 1) (by decide +kernel) ?_
    refine aw_goto (off := 4) (tgt := 21) (by decide +kernel) (by decide) ?_
    refine aw_iconst (n := 1) (by decide +kernel) ?_
    refine aw_callV (y := yX12_throwsIf) (M2 := mX12_throwsIf) (as := [vI 1, vI 1]) (S := []) (t := 171) (d2 := d) (b2 := 0) (b3 := b) cwX12_throwsIf mlX12_279 imX12_throwsIf seX12_throwsIf (by decide +kernel) rfl (ci := 10) rfl (OB.at (ci := 10) (show shp 171 = (20, 0) by decide +kernel) (by decide)) (Nat.le_refl _) (Nat.le_of_eq (Nat.zero_add _)) rfl rfl (by simp [oneSlot]) (Nat.le_of_ble_eq_true rfl) (c_throwsIf1 ?_)
    show AW Γ l mX12_hours (d + 1) b 25 [vR 171, vI x1] [vI 1] (stt (upd2 (upd2 g 171 0 0) 171 0 1)) K
    refine ax_if_eq (off := 5) (tgt := 30) (x' := 1) (by decide +kernel) (by decide) (by decide +kernel) (fun hc => absurd hc (by decide)) (fun hc => ?_)
    refine aw_iconst (n := 0) (by decide +kernel) ?_
    exact aw_iret (by decide +kernel) rfl hF

set_option maxHeartbeats 1000000 in
theorem wpX12_isNot {Γ : Cfg} {l : Launch} {d b : Nat} {g : GG} {K : Ou → HP → Prop} {x1 : Int} {x2 : Int} (hF : (¬ (0 ≤ wr x1 ∧ wr x1 ≤ wr ((upd2 g 171 0 0) 172 0 - 1)) → K (.inl (vI 1)) (stt (upd2 (upd2 g 171 0 0) 171 0 1))) ∧ (¬ (¬ (0 ≤ wr x1 ∧ wr x1 ≤ wr ((upd2 g 171 0 0) 172 0 - 1))) → (okP x1 3) ∧ ((wr (ofP (upd2 g 171 0 0) x1 3) = wr x2 → K (.inl (vI 0)) (stt (upd2 g 171 0 0))) ∧ (¬ (wr (ofP (upd2 g 171 0 0) x1 3) = wr x2) → K (.inl (vI 1)) (stt (upd2 (upd2 g 171 0 0) 171 0 2)))))) : Ct Γ l (d + 2) b yX12_isNot mX12_isNot [vR 171, vI x1, vI x2] (stt g) K := by
  refine Ct.enter (L := [vR 171, vI x1, vI x2]) rfl rfl rfl (by decide +kernel) (by simp [oneSlot]) (Nat.le_of_ble_eq_true rfl) rfl ?_
  refine aw_aload_n (k' := 0) (by decide +kernel) rfl ?_
  refine aw_iconst (n := 0) (by decide +kernel) ?_
  refine pfX12_3 rfl (by decide +kernel) (OB.at (ci := 10) (show shp 171 = (20, 0) by decide +kernel) (by decide)) ?_
  show AW Γ l mX12_isNot (d + 2) b 5 [vR 171, vI x1, vI x2] [] (stt (upd2 g 171 0 0)) K
  refine aw_aload_n (k' := 0) (by decide +kernel) rfl ?_
  refine aw_aload_n (k' := 0) (by decide +kernel) rfl ?_
  refine aw_iload_n (k' := 1) (by decide +kernel) rfl ?_
  refine aw_callV (y := yX12_noPerson) (M2 := mX12_noPerson) (as := [vI x1]) (S := [vR 171]) (t := 171) (d2 := (d + 1)) (b2 := 0) (b3 := b) cwX12_noPerson mlX12_386 imX12_noPerson seX12_noPerson (by decide +kernel) rfl (ci := 10) rfl (OB.at (ci := 10) (show shp 171 = (20, 0) by decide +kernel) (by decide)) (Nat.le_refl _) (Nat.le_of_eq (Nat.zero_add _)) rfl rfl (by simp [oneSlot]) (Nat.le_of_ble_eq_true rfl) (c_noPerson (fun hc => ?_) (fun hc => ?_))
  · have hF := hF.1 hc
    show AW Γ l mX12_isNot (d + 2) b 11 [vR 171, vI x1, vI x2] [vI 1, vR 171] (stt (upd2 g 171 0 0)) K
    refine aw_iconst (n := 1) (by decide +kernel) ?_
    refine aw_callV (y := yX12_throwsIf) (M2 := mX12_throwsIf) (as := [vI 1, vI 1]) (S := []) (t := 171) (d2 := (d + 1)) (b2 := 0) (b3 := b) cwX12_throwsIf mlX12_279 imX12_throwsIf seX12_throwsIf (by decide +kernel) rfl (ci := 10) rfl (OB.at (ci := 10) (show shp 171 = (20, 0) by decide +kernel) (by decide)) (Nat.le_refl _) (Nat.le_of_eq (Nat.zero_add _)) rfl rfl (by simp [oneSlot]) (Nat.le_of_ble_eq_true rfl) (c_throwsIf1 ?_)
    show AW Γ l mX12_isNot (d + 2) b 15 [vR 171, vI x1, vI x2] [vI 1] (stt (upd2 (upd2 g 171 0 0) 171 0 1)) K
    refine ax_if_ne (off := 26) (tgt := 41) (x' := 1) (by decide +kernel) (by decide) (by decide +kernel) (fun hc => ?_) (fun hc => absurd (by decide) hc)
    refine aw_iconst (n := 1) (by decide +kernel) ?_
    refine aw_goto (off := 4) (tgt := 46) (by decide +kernel) (by decide) ?_
    exact aw_zret (by decide +kernel) rfl rfl hF
  · have hF := hF.2 hc
    show AW Γ l mX12_isNot (d + 2) b 11 [vR 171, vI x1, vI x2] [vI 0, vR 171] (stt (upd2 g 171 0 0)) K
    refine aw_iconst (n := 1) (by decide +kernel) ?_
    refine aw_callV (y := yX12_throwsIf) (M2 := mX12_throwsIf) (as := [vI 0, vI 1]) (S := []) (t := 171) (d2 := (d + 1)) (b2 := 0) (b3 := b) cwX12_throwsIf mlX12_279 imX12_throwsIf seX12_throwsIf (by decide +kernel) rfl (ci := 10) rfl (OB.at (ci := 10) (show shp 171 = (20, 0) by decide +kernel) (by decide)) (Nat.le_refl _) (Nat.le_of_eq (Nat.zero_add _)) rfl rfl (by simp [oneSlot]) (Nat.le_of_ble_eq_true rfl) (c_throwsIf0 ?_)
    show AW Γ l mX12_isNot (d + 2) b 15 [vR 171, vI x1, vI x2] [vI 0] (stt (upd2 g 171 0 0)) K
    refine ax_if_ne (off := 26) (tgt := 41) (x' := 0) (by decide +kernel) (by decide) (by decide +kernel) (fun hc => absurd hc (by decide)) (fun hc => ?_)
    refine aw_aload_n (k' := 0) (by decide +kernel) rfl ?_
    refine aw_aload_n (k' := 0) (by decide +kernel) rfl ?_
    refine aw_iload_n (k' := 1) (by decide +kernel) rfl ?_
    refine aw_iconst (n := 3) (by decide +kernel) ?_
    refine aw_callV (y := yX12_of) (M2 := mX12_of) (as := [vI x1, vI 3]) (S := [vR 171]) (t := 171) (d2 := (d + 1)) (b2 := 0) (b3 := b) cwX12_of mlX12_84 imX12_of seX12_of (by decide +kernel) rfl (ci := 10) rfl (OB.at (ci := 10) (show shp 171 = (20, 0) by decide +kernel) (by decide)) (Nat.le_refl _) (Nat.le_of_eq (Nat.zero_add _)) rfl rfl (by simp [oneSlot]) (Nat.le_of_ble_eq_true rfl) (c_of hF.1 ?_)
    show AW Γ l mX12_isNot (d + 2) b 25 [vR 171, vI x1, vI x2] [vI (ofP (upd2 g 171 0 0) x1 3), vR 171] (stt (upd2 g 171 0 0)) K
    replace hF := hF.2
    refine aw_iload_n (k' := 2) (by decide +kernel) rfl ?_
    refine ax_icmp_eq (off := 7) (tgt := 33) (x' := wr (ofP (upd2 g 171 0 0) x1 3)) (y' := wr x2) (by decide +kernel) (by decide) rfl rfl (fun hc => ?_) (fun hc => ?_)
    · have hF := hF.1 hc
      refine aw_iconst (n := 0) (by decide +kernel) ?_
      refine aw_iconst (n := 2) (by decide +kernel) ?_
      refine aw_callV (y := yX12_throwsIf) (M2 := mX12_throwsIf) (as := [vI 0, vI 2]) (S := []) (t := 171) (d2 := (d + 1)) (b2 := 0) (b3 := b) cwX12_throwsIf mlX12_279 imX12_throwsIf seX12_throwsIf (by decide +kernel) rfl (ci := 10) rfl (OB.at (ci := 10) (show shp 171 = (20, 0) by decide +kernel) (by decide)) (Nat.le_refl _) (Nat.le_of_eq (Nat.zero_add _)) rfl rfl (by simp [oneSlot]) (Nat.le_of_ble_eq_true rfl) (c_throwsIf0 ?_)
      show AW Γ l mX12_isNot (d + 2) b 38 [vR 171, vI x1, vI x2] [vI 0] (stt (upd2 g 171 0 0)) K
      refine ax_if_eq (off := 7) (tgt := 45) (x' := 0) (by decide +kernel) (by decide) (by decide +kernel) (fun hc => ?_) (fun hc => absurd (by decide) hc)
      refine aw_iconst (n := 0) (by decide +kernel) ?_
      exact aw_zret (by decide +kernel) rfl rfl hF
    · have hF := hF.2 hc
      refine aw_iconst (n := 1) (by decide +kernel) ?_
      refine aw_goto (off := 4) (tgt := 34) (by decide +kernel) (by decide) ?_
      refine aw_iconst (n := 2) (by decide +kernel) ?_
      refine aw_callV (y := yX12_throwsIf) (M2 := mX12_throwsIf) (as := [vI 1, vI 2]) (S := []) (t := 171) (d2 := (d + 1)) (b2 := 0) (b3 := b) cwX12_throwsIf mlX12_279 imX12_throwsIf seX12_throwsIf (by decide +kernel) rfl (ci := 10) rfl (OB.at (ci := 10) (show shp 171 = (20, 0) by decide +kernel) (by decide)) (Nat.le_refl _) (Nat.le_of_eq (Nat.zero_add _)) rfl rfl (by simp [oneSlot]) (Nat.le_of_ble_eq_true rfl) (c_throwsIf1 ?_)
      show AW Γ l mX12_isNot (d + 2) b 38 [vR 171, vI x1, vI x2] [vI 1] (stt (upd2 (upd2 g 171 0 0) 171 0 2)) K
      refine ax_if_eq (off := 7) (tgt := 45) (x' := 1) (by decide +kernel) (by decide) (by decide +kernel) (fun hc => absurd hc (by decide)) (fun hc => ?_)
      refine aw_iconst (n := 1) (by decide +kernel) ?_
      refine aw_goto (off := 4) (tgt := 46) (by decide +kernel) (by decide) ?_
      exact aw_zret (by decide +kernel) rfl rfl hF

set_option maxHeartbeats 1000000 in
theorem wpX12_begin {Γ : Cfg} {l : Launch} {d b : Nat} {g : GG} {K : Ou → HP → Prop} {x1 : Int} (hF : Ct Γ l (d + 1) 0 yX12_isNot mX12_isNot [vR 171, vI x1, vI 0] (stt g) (bI (fun v1 g1 => (wr v1 = 0 → Ct Γ l (d + 1) 0 yX12_remembers mX12_remembers [vR 171] (stt g1) (bV (fun g2 => (0 ≤ wr (12 + 29 * x1 + 3) ∧ wr (12 + 29 * x1 + 3) < 2184) ∧ (∀ g3 : GG, g3 = upd2 g2 172 (wr (12 + 29 * x1 + 3)) 1 → (0 ≤ wr (12 + 29 * x1 + 4) ∧ wr (12 + 29 * x1 + 4) < 2184) ∧ (∀ g4 : GG, g4 = upd2 g3 172 (wr (12 + 29 * x1 + 4)) 0 → (okP x1 0) ∧ (K (.inl (vI (ofP g4 x1 0))) (stt g4))))) K)) ∧ (¬ (wr v1 = 0) → K (.inl (vI 0)) (stt g1))) K)) : Ct Γ l (d + 2) b yX12_begin mX12_begin [vR 171, vI x1] (stt g) K := by
  refine Ct.enter (L := [vR 171, vI x1]) rfl rfl rfl (by decide +kernel) (by simp [oneSlot]) (Nat.le_of_ble_eq_true rfl) rfl ?_
  refine aw_aload_n (k' := 0) (by decide +kernel) rfl ?_
  refine aw_iload_n (k' := 1) (by decide +kernel) rfl ?_
  refine aw_iconst (n := 0) (by decide +kernel) ?_
  refine aw_callV (y := yX12_isNot) (M2 := mX12_isNot) (as := [vI x1, vI 0]) (S := []) (t := 171) (d2 := (d + 1)) (b2 := 0) (b3 := b) cwX12_isNot mlX12_414 imX12_isNot seX12_isNot (by decide +kernel) rfl (ci := 10) rfl (OB.at (ci := 10) (show shp 171 = (20, 0) by decide +kernel) (by decide)) (Nat.le_refl _) (Nat.le_of_eq (Nat.zero_add _)) rfl rfl (by simp [oneSlot]) (Nat.le_of_ble_eq_true rfl) (Ct.mono hF ?_)
  rintro o h' (⟨v1, g1, rfl, rfl, hG⟩ | ⟨E, g, rfl, rfl, hG⟩)
  · show AW Γ l mX12_begin (d + 2) b 6 [vR 171, vI x1] [vI v1] (stt g1) K
    refine ax_if_eq (off := 5) (tgt := 11) (x' := wr v1) (by decide +kernel) (by decide) rfl (fun hc => ?_) (fun hc => ?_)
    · have hG := hG.1 hc
      refine aw_aload_n (k' := 0) (by decide +kernel) rfl ?_
      refine aw_callV (y := yX12_remembers) (M2 := mX12_remembers) (as := []) (S := []) (t := 171) (d2 := (d + 1)) (b2 := 0) (b3 := b) cwX12_remembers mlX12_408 imX12_remembers seX12_remembers (by decide +kernel) rfl (ci := 10) rfl (OB.at (ci := 10) (show shp 171 = (20, 0) by decide +kernel) (by decide)) (Nat.le_refl _) (Nat.le_of_eq (Nat.zero_add _)) rfl rfl (by simp [oneSlot]) (Nat.le_of_ble_eq_true rfl) (Ct.mono hG ?_)
      rintro o h' (⟨g2, rfl, rfl, hG⟩ | ⟨E, g, rfl, rfl, hG⟩)
      · show AW Γ l mX12_begin (d + 2) b 15 [vR 171, vI x1] [] (stt g2) K
        refine aw_aload_n (k' := 0) (by decide +kernel) rfl ?_
        refine gfX12_13 rfl (by decide +kernel) (OB.at (ci := 10) (show shp 171 = (20, 0) by decide +kernel) (by decide)) ?_
        refine AW.topR (show RC 171 1 = 172 by decide +kernel) ?_
        refine aw_iload_n (k' := 1) (by decide +kernel) rfl ?_
        refine aw_iconst (n := 3) (by decide +kernel) ?_
        refine aw_callS (y := yX12_personAt) (M2 := mX12_personAt) (as := [vI x1, vI 3]) (S := [vR 172]) (d2 := (d + 1)) (b2 := 0) (b3 := b) cwX12_personAt mlX12_80 stX12_personAt (by decide +kernel) rfl (Nat.le_refl _) (Nat.le_of_eq (Nat.zero_add _)) rfl rfl (by simp [oneSlot]) (Nat.le_of_ble_eq_true rfl) (c_personAt ?_)
        show AW Γ l mX12_begin (d + 2) b 24 [vR 171, vI x1] [vI (12 + 29 * x1 + 3), vR 172] (stt g2) K
        refine aw_iconst (n := 1) (by decide +kernel) ?_
        refine ax_iast (i := wr (12 + 29 * x1 + 3)) (by decide +kernel) (isA_lit (show shp 172 = (0, 2184) by decide +kernel) (by decide)) rfl hG.1 ?_
        show AW Γ l mX12_begin (d + 2) b 26 [vR 171, vI x1] [] (stt (upd2 g2 172 (wr (12 + 29 * x1 + 3)) 1)) K
        replace hG := hG.2
        show AW Γ l mX12_begin (d + 2) b 26 [vR 171, vI x1] [] (stt (upd2 g2 172 (wr (12 + 29 * x1 + 3)) 1)) K
        generalize eg3 : upd2 g2 172 (wr (12 + 29 * x1 + 3)) 1 = g3
        replace hG := hG g3 eg3.symm
        refine aw_aload_n (k' := 0) (by decide +kernel) rfl ?_
        refine gfX12_13 rfl (by decide +kernel) (OB.at (ci := 10) (show shp 171 = (20, 0) by decide +kernel) (by decide)) ?_
        refine AW.topR (show RC 171 1 = 172 by decide +kernel) ?_
        refine aw_iload_n (k' := 1) (by decide +kernel) rfl ?_
        refine aw_iconst (n := 4) (by decide +kernel) ?_
        refine aw_callS (y := yX12_personAt) (M2 := mX12_personAt) (as := [vI x1, vI 4]) (S := [vR 172]) (d2 := (d + 1)) (b2 := 0) (b3 := b) cwX12_personAt mlX12_80 stX12_personAt (by decide +kernel) rfl (Nat.le_refl _) (Nat.le_of_eq (Nat.zero_add _)) rfl rfl (by simp [oneSlot]) (Nat.le_of_ble_eq_true rfl) (c_personAt ?_)
        show AW Γ l mX12_begin (d + 2) b 35 [vR 171, vI x1] [vI (12 + 29 * x1 + 4), vR 172] (stt g3) K
        refine aw_iconst (n := 0) (by decide +kernel) ?_
        refine ax_iast (i := wr (12 + 29 * x1 + 4)) (by decide +kernel) (isA_lit (show shp 172 = (0, 2184) by decide +kernel) (by decide)) rfl hG.1 ?_
        show AW Γ l mX12_begin (d + 2) b 37 [vR 171, vI x1] [] (stt (upd2 g3 172 (wr (12 + 29 * x1 + 4)) 0)) K
        replace hG := hG.2
        show AW Γ l mX12_begin (d + 2) b 37 [vR 171, vI x1] [] (stt (upd2 g3 172 (wr (12 + 29 * x1 + 4)) 0)) K
        generalize eg4 : upd2 g3 172 (wr (12 + 29 * x1 + 4)) 0 = g4
        replace hG := hG g4 eg4.symm
        refine aw_aload_n (k' := 0) (by decide +kernel) rfl ?_
        refine aw_iload_n (k' := 1) (by decide +kernel) rfl ?_
        refine aw_iconst (n := 0) (by decide +kernel) ?_
        refine aw_callV (y := yX12_of) (M2 := mX12_of) (as := [vI x1, vI 0]) (S := []) (t := 171) (d2 := (d + 1)) (b2 := 0) (b3 := b) cwX12_of mlX12_84 imX12_of seX12_of (by decide +kernel) rfl (ci := 10) rfl (OB.at (ci := 10) (show shp 171 = (20, 0) by decide +kernel) (by decide)) (Nat.le_refl _) (Nat.le_of_eq (Nat.zero_add _)) rfl rfl (by simp [oneSlot]) (Nat.le_of_ble_eq_true rfl) (c_of hG.1 ?_)
        show AW Γ l mX12_begin (d + 2) b 43 [vR 171, vI x1] [vI (ofP g4 x1 0)] (stt g4) K
        replace hG := hG.2
        exact aw_iret (by decide +kernel) rfl hG
      · exact hG
    · have hG := hG.2 hc
      refine aw_iconst (n := 0) (by decide +kernel) ?_
      exact aw_iret (by decide +kernel) rfl hG
  · exact hG

set_option maxHeartbeats 1000000 in
theorem wpX12_stop {Γ : Cfg} {l : Launch} {d b : Nat} {g : GG} {K : Ou → HP → Prop} {x1 : Int} {x2 : Int} (hF : (¬ (0 ≤ wr x1 ∧ wr x1 ≤ wr ((upd2 g 171 0 0) 172 0 - 1)) → K (.inl (vI 0)) (stt (upd2 (upd2 g 171 0 0) 171 0 1))) ∧ (¬ (¬ (0 ≤ wr x1 ∧ wr x1 ≤ wr ((upd2 g 171 0 0) 172 0 - 1))) → (0 ≤ wr x2 ∧ wr x2 ≤ 4 → (okP x1 3) ∧ ((wr (ofP (upd2 g 171 0 0) x1 3) = 1 → Ct Γ l (d + 1) 0 yX12_remembers mX12_remembers [vR 171] (stt (upd2 g 171 0 0)) (bV (fun g1 => Ct Γ l (d + 1) 0 yX12_inOrder mX12_inOrder [vR 171] (stt g1) (bV (fun g2 => Ct Γ l (d + 1) 0 yX12_isBroken mX12_isBroken [vR 171, vI x1, vI x2] (stt g2) (bI (fun v1 g3 => K (.inl (vI v1)) (stt g3)) K)) K)) K)) ∧ (¬ (wr (ofP (upd2 g 171 0 0) x1 3) = 1) → K (.inl (vI 0)) (stt (upd2 (upd2 g 171 0 0) 171 0 3))))) ∧ (¬ (0 ≤ wr x2 ∧ wr x2 ≤ 4) → K (.inl (vI 0)) (stt (upd2 (upd2 g 171 0 0) 171 0 2))))) : Ct Γ l (d + 2) b yX12_stop mX12_stop [vR 171, vI x1, vI x2] (stt g) K := by
  refine Ct.enter (L := [vR 171, vI x1, vI x2]) rfl rfl rfl (by decide +kernel) (by simp [oneSlot]) (Nat.le_of_ble_eq_true rfl) rfl ?_
  refine aw_aload_n (k' := 0) (by decide +kernel) rfl ?_
  refine aw_iconst (n := 0) (by decide +kernel) ?_
  refine pfX12_3 rfl (by decide +kernel) (OB.at (ci := 10) (show shp 171 = (20, 0) by decide +kernel) (by decide)) ?_
  show AW Γ l mX12_stop (d + 2) b 5 [vR 171, vI x1, vI x2] [] (stt (upd2 g 171 0 0)) K
  refine aw_aload_n (k' := 0) (by decide +kernel) rfl ?_
  refine aw_aload_n (k' := 0) (by decide +kernel) rfl ?_
  refine aw_iload_n (k' := 1) (by decide +kernel) rfl ?_
  refine aw_callV (y := yX12_noPerson) (M2 := mX12_noPerson) (as := [vI x1]) (S := [vR 171]) (t := 171) (d2 := (d + 1)) (b2 := 0) (b3 := b) cwX12_noPerson mlX12_386 imX12_noPerson seX12_noPerson (by decide +kernel) rfl (ci := 10) rfl (OB.at (ci := 10) (show shp 171 = (20, 0) by decide +kernel) (by decide)) (Nat.le_refl _) (Nat.le_of_eq (Nat.zero_add _)) rfl rfl (by simp [oneSlot]) (Nat.le_of_ble_eq_true rfl) (c_noPerson (fun hc => ?_) (fun hc => ?_))
  · have hF := hF.1 hc
    show AW Γ l mX12_stop (d + 2) b 11 [vR 171, vI x1, vI x2] [vI 1, vR 171] (stt (upd2 g 171 0 0)) K
    refine aw_iconst (n := 1) (by decide +kernel) ?_
    refine aw_callV (y := yX12_throwsIf) (M2 := mX12_throwsIf) (as := [vI 1, vI 1]) (S := []) (t := 171) (d2 := (d + 1)) (b2 := 0) (b3 := b) cwX12_throwsIf mlX12_279 imX12_throwsIf seX12_throwsIf (by decide +kernel) rfl (ci := 10) rfl (OB.at (ci := 10) (show shp 171 = (20, 0) by decide +kernel) (by decide)) (Nat.le_refl _) (Nat.le_of_eq (Nat.zero_add _)) rfl rfl (by simp [oneSlot]) (Nat.le_of_ble_eq_true rfl) (c_throwsIf1 ?_)
    show AW Γ l mX12_stop (d + 2) b 15 [vR 171, vI x1, vI x2] [vI 1] (stt (upd2 (upd2 g 171 0 0) 171 0 1)) K
    refine ax_if_ne (off := 48) (tgt := 63) (x' := 1) (by decide +kernel) (by decide) (by decide +kernel) (fun hc => ?_) (fun hc => absurd (by decide) hc)
    refine aw_iconst (n := 0) (by decide +kernel) ?_
    exact aw_iret (by decide +kernel) rfl hF
  · have hF := hF.2 hc
    show AW Γ l mX12_stop (d + 2) b 11 [vR 171, vI x1, vI x2] [vI 0, vR 171] (stt (upd2 g 171 0 0)) K
    refine aw_iconst (n := 1) (by decide +kernel) ?_
    refine aw_callV (y := yX12_throwsIf) (M2 := mX12_throwsIf) (as := [vI 0, vI 1]) (S := []) (t := 171) (d2 := (d + 1)) (b2 := 0) (b3 := b) cwX12_throwsIf mlX12_279 imX12_throwsIf seX12_throwsIf (by decide +kernel) rfl (ci := 10) rfl (OB.at (ci := 10) (show shp 171 = (20, 0) by decide +kernel) (by decide)) (Nat.le_refl _) (Nat.le_of_eq (Nat.zero_add _)) rfl rfl (by simp [oneSlot]) (Nat.le_of_ble_eq_true rfl) (c_throwsIf0 ?_)
    show AW Γ l mX12_stop (d + 2) b 15 [vR 171, vI x1, vI x2] [vI 0] (stt (upd2 g 171 0 0)) K
    refine ax_if_ne (off := 48) (tgt := 63) (x' := 0) (by decide +kernel) (by decide) (by decide +kernel) (fun hc => absurd hc (by decide)) (fun hc => ?_)
    refine aw_aload_n (k' := 0) (by decide +kernel) rfl ?_
    refine aw_iload_n (k' := 2) (by decide +kernel) rfl ?_
    refine aw_iconst (n := 0) (by decide +kernel) ?_
    refine aw_iconst (n := 4) (by decide +kernel) ?_
    refine aw_callS (y := yX12_in) (M2 := mX12_in) (as := [vI x2, vI 0, vI 4]) (S := [vR 171]) (d2 := (d + 1)) (b2 := 0) (b3 := b) cwX12_in mlX12_91 stX12_in (by decide +kernel) rfl (Nat.le_refl _) (Nat.le_of_eq (Nat.zero_add _)) rfl rfl (by simp [oneSlot]) (Nat.le_of_ble_eq_true rfl) (c_in (x' := wr x2) (y' := 0) (z' := 4) rfl (by decide +kernel) (by decide +kernel) (fun hc => ?_) (fun hc => ?_))
    · have hF := hF.1 hc
      show AW Γ l mX12_stop (d + 2) b 25 [vR 171, vI x1, vI x2] [vI 1, vR 171] (stt (upd2 g 171 0 0)) K
      refine ax_if_ne (off := 7) (tgt := 32) (x' := 1) (by decide +kernel) (by decide) (by decide +kernel) (fun hc => ?_) (fun hc => absurd (by decide) hc)
      refine aw_iconst (n := 0) (by decide +kernel) ?_
      refine aw_iconst (n := 2) (by decide +kernel) ?_
      refine aw_callV (y := yX12_throwsIf) (M2 := mX12_throwsIf) (as := [vI 0, vI 2]) (S := []) (t := 171) (d2 := (d + 1)) (b2 := 0) (b3 := b) cwX12_throwsIf mlX12_279 imX12_throwsIf seX12_throwsIf (by decide +kernel) rfl (ci := 10) rfl (OB.at (ci := 10) (show shp 171 = (20, 0) by decide +kernel) (by decide)) (Nat.le_refl _) (Nat.le_of_eq (Nat.zero_add _)) rfl rfl (by simp [oneSlot]) (Nat.le_of_ble_eq_true rfl) (c_throwsIf0 ?_)
      show AW Γ l mX12_stop (d + 2) b 37 [vR 171, vI x1, vI x2] [vI 0] (stt (upd2 g 171 0 0)) K
      refine ax_if_ne (off := 26) (tgt := 63) (x' := 0) (by decide +kernel) (by decide) (by decide +kernel) (fun hc => absurd hc (by decide)) (fun hc => ?_)
      refine aw_aload_n (k' := 0) (by decide +kernel) rfl ?_
      refine aw_aload_n (k' := 0) (by decide +kernel) rfl ?_
      refine aw_iload_n (k' := 1) (by decide +kernel) rfl ?_
      refine aw_iconst (n := 3) (by decide +kernel) ?_
      refine aw_callV (y := yX12_of) (M2 := mX12_of) (as := [vI x1, vI 3]) (S := [vR 171]) (t := 171) (d2 := (d + 1)) (b2 := 0) (b3 := b) cwX12_of mlX12_84 imX12_of seX12_of (by decide +kernel) rfl (ci := 10) rfl (OB.at (ci := 10) (show shp 171 = (20, 0) by decide +kernel) (by decide)) (Nat.le_refl _) (Nat.le_of_eq (Nat.zero_add _)) rfl rfl (by simp [oneSlot]) (Nat.le_of_ble_eq_true rfl) (c_of hF.1 ?_)
      show AW Γ l mX12_stop (d + 2) b 47 [vR 171, vI x1, vI x2] [vI (ofP (upd2 g 171 0 0) x1 3), vR 171] (stt (upd2 g 171 0 0)) K
      replace hF := hF.2
      refine aw_iconst (n := 1) (by decide +kernel) ?_
      refine ax_icmp_eq (off := 7) (tgt := 55) (x' := wr (ofP (upd2 g 171 0 0) x1 3)) (y' := 1) (by decide +kernel) (by decide) rfl (by decide +kernel) (fun hc => ?_) (fun hc => ?_)
      · have hF := hF.1 hc
        refine aw_iconst (n := 0) (by decide +kernel) ?_
        refine aw_iconst (n := 3) (by decide +kernel) ?_
        refine aw_callV (y := yX12_throwsIf) (M2 := mX12_throwsIf) (as := [vI 0, vI 3]) (S := []) (t := 171) (d2 := (d + 1)) (b2 := 0) (b3 := b) cwX12_throwsIf mlX12_279 imX12_throwsIf seX12_throwsIf (by decide +kernel) rfl (ci := 10) rfl (OB.at (ci := 10) (show shp 171 = (20, 0) by decide +kernel) (by decide)) (Nat.le_refl _) (Nat.le_of_eq (Nat.zero_add _)) rfl rfl (by simp [oneSlot]) (Nat.le_of_ble_eq_true rfl) (c_throwsIf0 ?_)
        show AW Γ l mX12_stop (d + 2) b 60 [vR 171, vI x1, vI x2] [vI 0] (stt (upd2 g 171 0 0)) K
        refine ax_if_eq (off := 5) (tgt := 65) (x' := 0) (by decide +kernel) (by decide) (by decide +kernel) (fun hc => ?_) (fun hc => absurd (by decide) hc)
        refine aw_aload_n (k' := 0) (by decide +kernel) rfl ?_
        refine aw_callV (y := yX12_remembers) (M2 := mX12_remembers) (as := []) (S := []) (t := 171) (d2 := (d + 1)) (b2 := 0) (b3 := b) cwX12_remembers mlX12_408 imX12_remembers seX12_remembers (by decide +kernel) rfl (ci := 10) rfl (OB.at (ci := 10) (show shp 171 = (20, 0) by decide +kernel) (by decide)) (Nat.le_refl _) (Nat.le_of_eq (Nat.zero_add _)) rfl rfl (by simp [oneSlot]) (Nat.le_of_ble_eq_true rfl) (Ct.mono hF ?_)
        rintro o h' (⟨g1, rfl, rfl, hG⟩ | ⟨E, g, rfl, rfl, hG⟩)
        · show AW Γ l mX12_stop (d + 2) b 69 [vR 171, vI x1, vI x2] [] (stt g1) K
          refine aw_aload_n (k' := 0) (by decide +kernel) rfl ?_
          refine aw_callV (y := yX12_inOrder) (M2 := mX12_inOrder) (as := []) (S := []) (t := 171) (d2 := (d + 1)) (b2 := 0) (b3 := b) cwX12_inOrder mlX12_377 imX12_inOrder seX12_inOrder (by decide +kernel) rfl (ci := 10) rfl (OB.at (ci := 10) (show shp 171 = (20, 0) by decide +kernel) (by decide)) (Nat.le_refl _) (Nat.le_of_eq (Nat.zero_add _)) rfl rfl (by simp [oneSlot]) (Nat.le_of_ble_eq_true rfl) (Ct.mono hG ?_)
          rintro o h' (⟨g2, rfl, rfl, hG⟩ | ⟨E, g, rfl, rfl, hG⟩)
          · show AW Γ l mX12_stop (d + 2) b 73 [vR 171, vI x1, vI x2] [] (stt g2) K
            refine aw_aload_n (k' := 0) (by decide +kernel) rfl ?_
            refine aw_iload_n (k' := 1) (by decide +kernel) rfl ?_
            refine aw_iload_n (k' := 2) (by decide +kernel) rfl ?_
            refine aw_callV (y := yX12_isBroken) (M2 := mX12_isBroken) (as := [vI x1, vI x2]) (S := []) (t := 171) (d2 := (d + 1)) (b2 := 0) (b3 := b) cwX12_isBroken mlX12_368 imX12_isBroken seX12_isBroken (by decide +kernel) rfl (ci := 10) rfl (OB.at (ci := 10) (show shp 171 = (20, 0) by decide +kernel) (by decide)) (Nat.le_refl _) (Nat.le_of_eq (Nat.zero_add _)) rfl rfl (by simp [oneSlot]) (Nat.le_of_ble_eq_true rfl) (Ct.mono hG ?_)
            rintro o h' (⟨v1, g3, rfl, rfl, hG⟩ | ⟨E, g, rfl, rfl, hG⟩)
            · show AW Γ l mX12_stop (d + 2) b 79 [vR 171, vI x1, vI x2] [vI v1] (stt g3) K
              exact aw_iret (by decide +kernel) rfl hG
            · exact hG
          · exact hG
        · exact hG
      · have hF := hF.2 hc
        refine aw_iconst (n := 1) (by decide +kernel) ?_
        refine aw_goto (off := 4) (tgt := 56) (by decide +kernel) (by decide) ?_
        refine aw_iconst (n := 3) (by decide +kernel) ?_
        refine aw_callV (y := yX12_throwsIf) (M2 := mX12_throwsIf) (as := [vI 1, vI 3]) (S := []) (t := 171) (d2 := (d + 1)) (b2 := 0) (b3 := b) cwX12_throwsIf mlX12_279 imX12_throwsIf seX12_throwsIf (by decide +kernel) rfl (ci := 10) rfl (OB.at (ci := 10) (show shp 171 = (20, 0) by decide +kernel) (by decide)) (Nat.le_refl _) (Nat.le_of_eq (Nat.zero_add _)) rfl rfl (by simp [oneSlot]) (Nat.le_of_ble_eq_true rfl) (c_throwsIf1 ?_)
        show AW Γ l mX12_stop (d + 2) b 60 [vR 171, vI x1, vI x2] [vI 1] (stt (upd2 (upd2 g 171 0 0) 171 0 3)) K
        refine ax_if_eq (off := 5) (tgt := 65) (x' := 1) (by decide +kernel) (by decide) (by decide +kernel) (fun hc => absurd hc (by decide)) (fun hc => ?_)
        refine aw_iconst (n := 0) (by decide +kernel) ?_
        exact aw_iret (by decide +kernel) rfl hF
    · have hF := hF.2 hc
      show AW Γ l mX12_stop (d + 2) b 25 [vR 171, vI x1, vI x2] [vI 0, vR 171] (stt (upd2 g 171 0 0)) K
      refine ax_if_ne (off := 7) (tgt := 32) (x' := 0) (by decide +kernel) (by decide) (by decide +kernel) (fun hc => absurd hc (by decide)) (fun hc => ?_)
      refine aw_iconst (n := 1) (by decide +kernel) ?_
      refine aw_goto (off := 4) (tgt := 33) (by decide +kernel) (by decide) ?_
      refine aw_iconst (n := 2) (by decide +kernel) ?_
      refine aw_callV (y := yX12_throwsIf) (M2 := mX12_throwsIf) (as := [vI 1, vI 2]) (S := []) (t := 171) (d2 := (d + 1)) (b2 := 0) (b3 := b) cwX12_throwsIf mlX12_279 imX12_throwsIf seX12_throwsIf (by decide +kernel) rfl (ci := 10) rfl (OB.at (ci := 10) (show shp 171 = (20, 0) by decide +kernel) (by decide)) (Nat.le_refl _) (Nat.le_of_eq (Nat.zero_add _)) rfl rfl (by simp [oneSlot]) (Nat.le_of_ble_eq_true rfl) (c_throwsIf1 ?_)
      show AW Γ l mX12_stop (d + 2) b 37 [vR 171, vI x1, vI x2] [vI 1] (stt (upd2 (upd2 g 171 0 0) 171 0 2)) K
      refine ax_if_ne (off := 26) (tgt := 63) (x' := 1) (by decide +kernel) (by decide) (by decide +kernel) (fun hc => ?_) (fun hc => absurd (by decide) hc)
      refine aw_iconst (n := 0) (by decide +kernel) ?_
      exact aw_iret (by decide +kernel) rfl hF

set_option maxHeartbeats 1000000 in
theorem wpX12_finish {Γ : Cfg} {l : Launch} {d b : Nat} {g : GG} {K : Ou → HP → Prop} {x1 : Int} (hF : Ct Γ l (d + 1) 0 yX12_isNot mX12_isNot [vR 171, vI x1, vI 1] (stt g) (bI (fun v1 g1 => (wr v1 = 0 → Ct Γ l (d + 1) 0 yX12_remembers mX12_remembers [vR 171] (stt g1) (bV (fun g2 => Ct Γ l (d + 1) 0 yX12_inOrder mX12_inOrder [vR 171] (stt g2) (bV (fun g3 => (okP x1 0) ∧ (Ct Γ l (d + 1) 0 yX12_isHeld mX12_isHeld [vR 171, vI x1, vI (ofP g3 x1 0), vI 5] (stt g3) (bV (fun g4 => Ct Γ l (d + 1) 0 yX12_weighs mX12_weighs [vR 171] (stt g4) (bI (fun v2 g5 => K (.inl (vI v2)) (stt g5)) K)) K))) K)) K)) ∧ (¬ (wr v1 = 0) → K (.inl (vI 0)) (stt g1))) K)) : Ct Γ l (d + 2) b yX12_finish mX12_finish [vR 171, vI x1] (stt g) K := by
  refine Ct.enter (L := [vR 171, vI x1]) rfl rfl rfl (by decide +kernel) (by simp [oneSlot]) (Nat.le_of_ble_eq_true rfl) rfl ?_
  refine aw_aload_n (k' := 0) (by decide +kernel) rfl ?_
  refine aw_iload_n (k' := 1) (by decide +kernel) rfl ?_
  refine aw_iconst (n := 1) (by decide +kernel) ?_
  refine aw_callV (y := yX12_isNot) (M2 := mX12_isNot) (as := [vI x1, vI 1]) (S := []) (t := 171) (d2 := (d + 1)) (b2 := 0) (b3 := b) cwX12_isNot mlX12_414 imX12_isNot seX12_isNot (by decide +kernel) rfl (ci := 10) rfl (OB.at (ci := 10) (show shp 171 = (20, 0) by decide +kernel) (by decide)) (Nat.le_refl _) (Nat.le_of_eq (Nat.zero_add _)) rfl rfl (by simp [oneSlot]) (Nat.le_of_ble_eq_true rfl) (Ct.mono hF ?_)
  rintro o h' (⟨v1, g1, rfl, rfl, hG⟩ | ⟨E, g, rfl, rfl, hG⟩)
  · show AW Γ l mX12_finish (d + 2) b 6 [vR 171, vI x1] [vI v1] (stt g1) K
    refine ax_if_eq (off := 5) (tgt := 11) (x' := wr v1) (by decide +kernel) (by decide) rfl (fun hc => ?_) (fun hc => ?_)
    · have hG := hG.1 hc
      refine aw_aload_n (k' := 0) (by decide +kernel) rfl ?_
      refine aw_callV (y := yX12_remembers) (M2 := mX12_remembers) (as := []) (S := []) (t := 171) (d2 := (d + 1)) (b2 := 0) (b3 := b) cwX12_remembers mlX12_408 imX12_remembers seX12_remembers (by decide +kernel) rfl (ci := 10) rfl (OB.at (ci := 10) (show shp 171 = (20, 0) by decide +kernel) (by decide)) (Nat.le_refl _) (Nat.le_of_eq (Nat.zero_add _)) rfl rfl (by simp [oneSlot]) (Nat.le_of_ble_eq_true rfl) (Ct.mono hG ?_)
      rintro o h' (⟨g2, rfl, rfl, hG⟩ | ⟨E, g, rfl, rfl, hG⟩)
      · show AW Γ l mX12_finish (d + 2) b 15 [vR 171, vI x1] [] (stt g2) K
        refine aw_aload_n (k' := 0) (by decide +kernel) rfl ?_
        refine aw_callV (y := yX12_inOrder) (M2 := mX12_inOrder) (as := []) (S := []) (t := 171) (d2 := (d + 1)) (b2 := 0) (b3 := b) cwX12_inOrder mlX12_377 imX12_inOrder seX12_inOrder (by decide +kernel) rfl (ci := 10) rfl (OB.at (ci := 10) (show shp 171 = (20, 0) by decide +kernel) (by decide)) (Nat.le_refl _) (Nat.le_of_eq (Nat.zero_add _)) rfl rfl (by simp [oneSlot]) (Nat.le_of_ble_eq_true rfl) (Ct.mono hG ?_)
        rintro o h' (⟨g3, rfl, rfl, hG⟩ | ⟨E, g, rfl, rfl, hG⟩)
        · show AW Γ l mX12_finish (d + 2) b 19 [vR 171, vI x1] [] (stt g3) K
          refine aw_aload_n (k' := 0) (by decide +kernel) rfl ?_
          refine aw_iload_n (k' := 1) (by decide +kernel) rfl ?_
          refine aw_aload_n (k' := 0) (by decide +kernel) rfl ?_
          refine aw_iload_n (k' := 1) (by decide +kernel) rfl ?_
          refine aw_iconst (n := 0) (by decide +kernel) ?_
          refine aw_callV (y := yX12_of) (M2 := mX12_of) (as := [vI x1, vI 0]) (S := [vI x1, vR 171]) (t := 171) (d2 := (d + 1)) (b2 := 0) (b3 := b) cwX12_of mlX12_84 imX12_of seX12_of (by decide +kernel) rfl (ci := 10) rfl (OB.at (ci := 10) (show shp 171 = (20, 0) by decide +kernel) (by decide)) (Nat.le_refl _) (Nat.le_of_eq (Nat.zero_add _)) rfl rfl (by simp [oneSlot]) (Nat.le_of_ble_eq_true rfl) (c_of hG.1 ?_)
          show AW Γ l mX12_finish (d + 2) b 27 [vR 171, vI x1] [vI (ofP g3 x1 0), vI x1, vR 171] (stt g3) K
          replace hG := hG.2
          refine aw_iconst (n := 5) (by decide +kernel) ?_
          refine aw_callV (y := yX12_isHeld) (M2 := mX12_isHeld) (as := [vI x1, vI (ofP g3 x1 0), vI 5]) (S := []) (t := 171) (d2 := (d + 1)) (b2 := 0) (b3 := b) cwX12_isHeld mlX12_358 imX12_isHeld seX12_isHeld (by decide +kernel) rfl (ci := 10) rfl (OB.at (ci := 10) (show shp 171 = (20, 0) by decide +kernel) (by decide)) (Nat.le_refl _) (Nat.le_of_eq (Nat.zero_add _)) rfl rfl (by simp [oneSlot]) (Nat.le_of_ble_eq_true rfl) (Ct.mono hG ?_)
          rintro o h' (⟨g4, rfl, rfl, hG⟩ | ⟨E, g, rfl, rfl, hG⟩)
          · show AW Γ l mX12_finish (d + 2) b 31 [vR 171, vI x1] [] (stt g4) K
            refine aw_aload_n (k' := 0) (by decide +kernel) rfl ?_
            refine aw_callV (y := yX12_weighs) (M2 := mX12_weighs) (as := []) (S := []) (t := 171) (d2 := (d + 1)) (b2 := 0) (b3 := b) cwX12_weighs mlX12_339 imX12_weighs seX12_weighs (by decide +kernel) rfl (ci := 10) rfl (OB.at (ci := 10) (show shp 171 = (20, 0) by decide +kernel) (by decide)) (Nat.le_refl _) (Nat.le_of_eq (Nat.zero_add _)) rfl rfl (by simp [oneSlot]) (Nat.le_of_ble_eq_true rfl) (Ct.mono hG ?_)
            rintro o h' (⟨v2, g5, rfl, rfl, hG⟩ | ⟨E, g, rfl, rfl, hG⟩)
            · show AW Γ l mX12_finish (d + 2) b 35 [vR 171, vI x1] [vI v2] (stt g5) K
              exact aw_iret (by decide +kernel) rfl hG
            · exact hG
          · exact hG
        · exact hG
      · exact hG
    · have hG := hG.2 hc
      refine aw_iconst (n := 0) (by decide +kernel) ?_
      exact aw_iret (by decide +kernel) rfl hG
  · exact hG

set_option maxHeartbeats 1000000 in
theorem wpX12_retract {Γ : Cfg} {l : Launch} {d b : Nat} {g : GG} {K : Ou → HP → Prop} {x1 : Int} (hF : Ct Γ l (d + 1) 0 yX12_isNot mX12_isNot [vR 171, vI x1, vI 2] (stt g) (bI (fun v1 g1 => (wr v1 = 0 → Ct Γ l (d + 1) 0 yX12_remembers mX12_remembers [vR 171] (stt g1) (bV (fun g2 => Ct Γ l (d + 1) 0 yX12_inOrder mX12_inOrder [vR 171] (stt g2) (bV (fun g3 => (okP x1 4) ∧ (Ct Γ l (d + 1) 0 yX12_weightAt mX12_weightAt [vR 171, vI x1, vI (ofP g3 x1 4)] (stt g3) (bI (fun v2 g4 => Ct Γ l (d + 1) 0 yX12_isTold mX12_isTold [vR 171, vI x1, vI 6, vI (ofP g3 x1 4), vI v2] (stt g4) (bV (fun g5 => (0 ≤ wr (12 + 29 * x1 + 3) ∧ wr (12 + 29 * x1 + 3) < 2184) ∧ (∀ g6 : GG, g6 = upd2 g5 172 (wr (12 + 29 * x1 + 3)) 0 → (0 ≤ wr (12 + 29 * x1 + 4) ∧ wr (12 + 29 * x1 + 4) < 2184) ∧ (∀ g7 : GG, g7 = upd2 g6 172 (wr (12 + 29 * x1 + 4)) 0 → K (.inl (vI (ofP g3 x1 4))) (stt g7)))) K)) K))) K)) K)) ∧ (¬ (wr v1 = 0) → K (.inl (vI 0)) (stt g1))) K)) : Ct Γ l (d + 2) b yX12_retract mX12_retract [vR 171, vI x1] (stt g) K := by
  refine Ct.enter (L := [vR 171, vI x1, vU]) rfl rfl rfl (by decide +kernel) (by simp [oneSlot]) (Nat.le_of_ble_eq_true rfl) rfl ?_
  refine aw_aload_n (k' := 0) (by decide +kernel) rfl ?_
  refine aw_iload_n (k' := 1) (by decide +kernel) rfl ?_
  refine aw_iconst (n := 2) (by decide +kernel) ?_
  refine aw_callV (y := yX12_isNot) (M2 := mX12_isNot) (as := [vI x1, vI 2]) (S := []) (t := 171) (d2 := (d + 1)) (b2 := 0) (b3 := b) cwX12_isNot mlX12_414 imX12_isNot seX12_isNot (by decide +kernel) rfl (ci := 10) rfl (OB.at (ci := 10) (show shp 171 = (20, 0) by decide +kernel) (by decide)) (Nat.le_refl _) (Nat.le_of_eq (Nat.zero_add _)) rfl rfl (by simp [oneSlot]) (Nat.le_of_ble_eq_true rfl) (Ct.mono hF ?_)
  rintro o h' (⟨v1, g1, rfl, rfl, hG⟩ | ⟨E, g, rfl, rfl, hG⟩)
  · show AW Γ l mX12_retract (d + 2) b 6 [vR 171, vI x1, vU] [vI v1] (stt g1) K
    refine ax_if_eq (off := 5) (tgt := 11) (x' := wr v1) (by decide +kernel) (by decide) rfl (fun hc => ?_) (fun hc => ?_)
    · have hG := hG.1 hc
      refine aw_aload_n (k' := 0) (by decide +kernel) rfl ?_
      refine aw_callV (y := yX12_remembers) (M2 := mX12_remembers) (as := []) (S := []) (t := 171) (d2 := (d + 1)) (b2 := 0) (b3 := b) cwX12_remembers mlX12_408 imX12_remembers seX12_remembers (by decide +kernel) rfl (ci := 10) rfl (OB.at (ci := 10) (show shp 171 = (20, 0) by decide +kernel) (by decide)) (Nat.le_refl _) (Nat.le_of_eq (Nat.zero_add _)) rfl rfl (by simp [oneSlot]) (Nat.le_of_ble_eq_true rfl) (Ct.mono hG ?_)
      rintro o h' (⟨g2, rfl, rfl, hG⟩ | ⟨E, g, rfl, rfl, hG⟩)
      · show AW Γ l mX12_retract (d + 2) b 15 [vR 171, vI x1, vU] [] (stt g2) K
        refine aw_aload_n (k' := 0) (by decide +kernel) rfl ?_
        refine aw_callV (y := yX12_inOrder) (M2 := mX12_inOrder) (as := []) (S := []) (t := 171) (d2 := (d + 1)) (b2 := 0) (b3 := b) cwX12_inOrder mlX12_377 imX12_inOrder seX12_inOrder (by decide +kernel) rfl (ci := 10) rfl (OB.at (ci := 10) (show shp 171 = (20, 0) by decide +kernel) (by decide)) (Nat.le_refl _) (Nat.le_of_eq (Nat.zero_add _)) rfl rfl (by simp [oneSlot]) (Nat.le_of_ble_eq_true rfl) (Ct.mono hG ?_)
        rintro o h' (⟨g3, rfl, rfl, hG⟩ | ⟨E, g, rfl, rfl, hG⟩)
        · show AW Γ l mX12_retract (d + 2) b 19 [vR 171, vI x1, vU] [] (stt g3) K
          refine aw_aload_n (k' := 0) (by decide +kernel) rfl ?_
          refine aw_iload_n (k' := 1) (by decide +kernel) rfl ?_
          refine aw_iconst (n := 4) (by decide +kernel) ?_
          refine aw_callV (y := yX12_of) (M2 := mX12_of) (as := [vI x1, vI 4]) (S := []) (t := 171) (d2 := (d + 1)) (b2 := 0) (b3 := b) cwX12_of mlX12_84 imX12_of seX12_of (by decide +kernel) rfl (ci := 10) rfl (OB.at (ci := 10) (show shp 171 = (20, 0) by decide +kernel) (by decide)) (Nat.le_refl _) (Nat.le_of_eq (Nat.zero_add _)) rfl rfl (by simp [oneSlot]) (Nat.le_of_ble_eq_true rfl) (c_of hG.1 ?_)
          show AW Γ l mX12_retract (d + 2) b 25 [vR 171, vI x1, vU] [vI (ofP g3 x1 4)] (stt g3) K
          replace hG := hG.2
          refine aw_istore_n (k' := 2) (by decide +kernel) (by decide) ?_
          show AW Γ l mX12_retract (d + 2) b 26 [vR 171, vI x1, vI (ofP g3 x1 4)] [] (stt g3) K
          refine aw_aload_n (k' := 0) (by decide +kernel) rfl ?_
          refine aw_iload_n (k' := 1) (by decide +kernel) rfl ?_
          refine aw_bipush (n := 6) (by decide +kernel) (by decide +kernel) ?_
          refine aw_iload_n (k' := 2) (by decide +kernel) rfl ?_
          refine aw_aload_n (k' := 0) (by decide +kernel) rfl ?_
          refine aw_iload_n (k' := 1) (by decide +kernel) rfl ?_
          refine aw_iload_n (k' := 2) (by decide +kernel) rfl ?_
          refine aw_callV (y := yX12_weightAt) (M2 := mX12_weightAt) (as := [vI x1, vI (ofP g3 x1 4)]) (S := [vI (ofP g3 x1 4), vI 6, vI x1, vR 171]) (t := 171) (d2 := (d + 1)) (b2 := 0) (b3 := b) cwX12_weightAt mlX12_345 imX12_weightAt seX12_weightAt (by decide +kernel) rfl (ci := 10) rfl (OB.at (ci := 10) (show shp 171 = (20, 0) by decide +kernel) (by decide)) (Nat.le_refl _) (Nat.le_of_eq (Nat.zero_add _)) rfl rfl (by simp [oneSlot]) (Nat.le_of_ble_eq_true rfl) (Ct.mono hG ?_)
          rintro o h' (⟨v2, g4, rfl, rfl, hG⟩ | ⟨E, g, rfl, rfl, hG⟩)
          · show AW Γ l mX12_retract (d + 2) b 37 [vR 171, vI x1, vI (ofP g3 x1 4)] [vI v2, vI (ofP g3 x1 4), vI 6, vI x1, vR 171] (stt g4) K
            refine aw_callV (y := yX12_isTold) (M2 := mX12_isTold) (as := [vI x1, vI 6, vI (ofP g3 x1 4), vI v2]) (S := []) (t := 171) (d2 := (d + 1)) (b2 := 0) (b3 := b) cwX12_isTold mlX12_351 imX12_isTold seX12_isTold (by decide +kernel) rfl (ci := 10) rfl (OB.at (ci := 10) (show shp 171 = (20, 0) by decide +kernel) (by decide)) (Nat.le_refl _) (Nat.le_of_eq (Nat.zero_add _)) rfl rfl (by simp [oneSlot]) (Nat.le_of_ble_eq_true rfl) (Ct.mono hG ?_)
            rintro o h' (⟨g5, rfl, rfl, hG⟩ | ⟨E, g, rfl, rfl, hG⟩)
            · show AW Γ l mX12_retract (d + 2) b 40 [vR 171, vI x1, vI (ofP g3 x1 4)] [] (stt g5) K
              refine aw_aload_n (k' := 0) (by decide +kernel) rfl ?_
              refine gfX12_13 rfl (by decide +kernel) (OB.at (ci := 10) (show shp 171 = (20, 0) by decide +kernel) (by decide)) ?_
              refine AW.topR (show RC 171 1 = 172 by decide +kernel) ?_
              refine aw_iload_n (k' := 1) (by decide +kernel) rfl ?_
              refine aw_iconst (n := 3) (by decide +kernel) ?_
              refine aw_callS (y := yX12_personAt) (M2 := mX12_personAt) (as := [vI x1, vI 3]) (S := [vR 172]) (d2 := (d + 1)) (b2 := 0) (b3 := b) cwX12_personAt mlX12_80 stX12_personAt (by decide +kernel) rfl (Nat.le_refl _) (Nat.le_of_eq (Nat.zero_add _)) rfl rfl (by simp [oneSlot]) (Nat.le_of_ble_eq_true rfl) (c_personAt ?_)
              show AW Γ l mX12_retract (d + 2) b 49 [vR 171, vI x1, vI (ofP g3 x1 4)] [vI (12 + 29 * x1 + 3), vR 172] (stt g5) K
              refine aw_iconst (n := 0) (by decide +kernel) ?_
              refine ax_iast (i := wr (12 + 29 * x1 + 3)) (by decide +kernel) (isA_lit (show shp 172 = (0, 2184) by decide +kernel) (by decide)) rfl hG.1 ?_
              show AW Γ l mX12_retract (d + 2) b 51 [vR 171, vI x1, vI (ofP g3 x1 4)] [] (stt (upd2 g5 172 (wr (12 + 29 * x1 + 3)) 0)) K
              replace hG := hG.2
              show AW Γ l mX12_retract (d + 2) b 51 [vR 171, vI x1, vI (ofP g3 x1 4)] [] (stt (upd2 g5 172 (wr (12 + 29 * x1 + 3)) 0)) K
              generalize eg6 : upd2 g5 172 (wr (12 + 29 * x1 + 3)) 0 = g6
              replace hG := hG g6 eg6.symm
              refine aw_aload_n (k' := 0) (by decide +kernel) rfl ?_
              refine gfX12_13 rfl (by decide +kernel) (OB.at (ci := 10) (show shp 171 = (20, 0) by decide +kernel) (by decide)) ?_
              refine AW.topR (show RC 171 1 = 172 by decide +kernel) ?_
              refine aw_iload_n (k' := 1) (by decide +kernel) rfl ?_
              refine aw_iconst (n := 4) (by decide +kernel) ?_
              refine aw_callS (y := yX12_personAt) (M2 := mX12_personAt) (as := [vI x1, vI 4]) (S := [vR 172]) (d2 := (d + 1)) (b2 := 0) (b3 := b) cwX12_personAt mlX12_80 stX12_personAt (by decide +kernel) rfl (Nat.le_refl _) (Nat.le_of_eq (Nat.zero_add _)) rfl rfl (by simp [oneSlot]) (Nat.le_of_ble_eq_true rfl) (c_personAt ?_)
              show AW Γ l mX12_retract (d + 2) b 60 [vR 171, vI x1, vI (ofP g3 x1 4)] [vI (12 + 29 * x1 + 4), vR 172] (stt g6) K
              refine aw_iconst (n := 0) (by decide +kernel) ?_
              refine ax_iast (i := wr (12 + 29 * x1 + 4)) (by decide +kernel) (isA_lit (show shp 172 = (0, 2184) by decide +kernel) (by decide)) rfl hG.1 ?_
              show AW Γ l mX12_retract (d + 2) b 62 [vR 171, vI x1, vI (ofP g3 x1 4)] [] (stt (upd2 g6 172 (wr (12 + 29 * x1 + 4)) 0)) K
              replace hG := hG.2
              show AW Γ l mX12_retract (d + 2) b 62 [vR 171, vI x1, vI (ofP g3 x1 4)] [] (stt (upd2 g6 172 (wr (12 + 29 * x1 + 4)) 0)) K
              generalize eg7 : upd2 g6 172 (wr (12 + 29 * x1 + 4)) 0 = g7
              replace hG := hG g7 eg7.symm
              refine aw_iload_n (k' := 2) (by decide +kernel) rfl ?_
              exact aw_iret (by decide +kernel) rfl hG
            · exact hG
          · exact hG
        · exact hG
      · exact hG
    · have hG := hG.2 hc
      refine aw_iconst (n := 0) (by decide +kernel) ?_
      exact aw_iret (by decide +kernel) rfl hG
  · exact hG

set_option maxHeartbeats 1000000 in
theorem wpX12_isNow {Γ : Cfg} {l : Launch} {d b : Nat} {g : GG} {K : Ou → HP → Prop} {x1 : Int} {x2 : Int} (hF : Ct Γ l d 0 yX12_remembers mX12_remembers [vR 171] (stt g) (bV (fun g1 => (0 ≤ wr x1 ∧ wr x1 < 2184) ∧ ((0 ≤ wr x1 ∧ wr x1 < 2184) ∧ (K (.inl (vI (g1 172 (wr x1)))) (stt (upd2 g1 172 (wr x1) x2))))) K)) : Ct Γ l (d + 1) b yX12_isNow mX12_isNow [vR 171, vI x1, vI x2] (stt g) K := by
  refine Ct.enter (L := [vR 171, vI x1, vI x2, vU]) rfl rfl rfl (by decide +kernel) (by simp [oneSlot]) (Nat.le_of_ble_eq_true rfl) rfl ?_
  refine aw_aload_n (k' := 0) (by decide +kernel) rfl ?_
  refine aw_callV (y := yX12_remembers) (M2 := mX12_remembers) (as := []) (S := []) (t := 171) (d2 := d) (b2 := 0) (b3 := b) cwX12_remembers mlX12_408 imX12_remembers seX12_remembers (by decide +kernel) rfl (ci := 10) rfl (OB.at (ci := 10) (show shp 171 = (20, 0) by decide +kernel) (by decide)) (Nat.le_refl _) (Nat.le_of_eq (Nat.zero_add _)) rfl rfl (by simp [oneSlot]) (Nat.le_of_ble_eq_true rfl) (Ct.mono hF ?_)
  rintro o h' (⟨g1, rfl, rfl, hG⟩ | ⟨E, g, rfl, rfl, hG⟩)
  · show AW Γ l mX12_isNow (d + 1) b 4 [vR 171, vI x1, vI x2, vU] [] (stt g1) K
    refine aw_aload_n (k' := 0) (by decide +kernel) rfl ?_
    refine gfX12_13 rfl (by decide +kernel) (OB.at (ci := 10) (show shp 171 = (20, 0) by decide +kernel) (by decide)) ?_
    refine AW.topR (show RC 171 1 = 172 by decide +kernel) ?_
    refine aw_iload_n (k' := 1) (by decide +kernel) rfl ?_
    refine ax_iald (i := wr x1) (by decide +kernel) (isA_lit (show shp 172 = (0, 2184) by decide +kernel) (by decide)) rfl hG.1 ?_
    replace hG := hG.2
    refine aw_istore_n (k' := 3) (by decide +kernel) (by decide) ?_
    show AW Γ l mX12_isNow (d + 1) b 11 [vR 171, vI x1, vI x2, vI (g1 172 (wr x1))] [] (stt g1) K
    refine aw_aload_n (k' := 0) (by decide +kernel) rfl ?_
    refine gfX12_13 rfl (by decide +kernel) (OB.at (ci := 10) (show shp 171 = (20, 0) by decide +kernel) (by decide)) ?_
    refine AW.topR (show RC 171 1 = 172 by decide +kernel) ?_
    refine aw_iload_n (k' := 1) (by decide +kernel) rfl ?_
    refine aw_iload_n (k' := 2) (by decide +kernel) rfl ?_
    refine ax_iast (i := wr x1) (by decide +kernel) (isA_lit (show shp 172 = (0, 2184) by decide +kernel) (by decide)) rfl hG.1 ?_
    show AW Γ l mX12_isNow (d + 1) b 18 [vR 171, vI x1, vI x2, vI (g1 172 (wr x1))] [] (stt (upd2 g1 172 (wr x1) x2)) K
    replace hG := hG.2
    refine aw_iload_n (k' := 3) (by decide +kernel) rfl ?_
    exact aw_iret (by decide +kernel) rfl hG
  · exact hG

set_option maxHeartbeats 1000000 in
theorem wpX12_guard {Γ : Cfg} {l : Launch} {d b : Nat} {g : GG} {K : Ou → HP → Prop} {x1 : Int} {x2 : Int} (hF : (¬ (0 ≤ wr x1 ∧ wr x1 ≤ wr ((upd2 g 171 0 0) 172 0 - 1)) → K (.inl (vI 0)) (stt (upd2 (upd2 g 171 0 0) 171 0 1))) ∧ (¬ (¬ (0 ≤ wr x1 ∧ wr x1 ≤ wr ((upd2 g 171 0 0) 172 0 - 1))) → (0 ≤ wr x2 ∧ wr x2 ≤ 9 → Ct Γ l (d + 1) 0 yX12_isNow mX12_isNow [vR 171, vI (12 + 29 * x1 + 2), vI x2] (stt (upd2 g 171 0 0)) (bI (fun v1 g1 => K (.inl (vI v1)) (stt g1)) K)) ∧ (¬ (0 ≤ wr x2 ∧ wr x2 ≤ 9) → K (.inl (vI 0)) (stt (upd2 (upd2 g 171 0 0) 171 0 2))))) : Ct Γ l (d + 2) b yX12_guard mX12_guard [vR 171, vI x1, vI x2] (stt g) K := by
  refine Ct.enter (L := [vR 171, vI x1, vI x2]) rfl rfl rfl (by decide +kernel) (by simp [oneSlot]) (Nat.le_of_ble_eq_true rfl) rfl ?_
  refine aw_aload_n (k' := 0) (by decide +kernel) rfl ?_
  refine aw_iconst (n := 0) (by decide +kernel) ?_
  refine pfX12_3 rfl (by decide +kernel) (OB.at (ci := 10) (show shp 171 = (20, 0) by decide +kernel) (by decide)) ?_
  show AW Γ l mX12_guard (d + 2) b 5 [vR 171, vI x1, vI x2] [] (stt (upd2 g 171 0 0)) K
  refine aw_aload_n (k' := 0) (by decide +kernel) rfl ?_
  refine aw_aload_n (k' := 0) (by decide +kernel) rfl ?_
  refine aw_iload_n (k' := 1) (by decide +kernel) rfl ?_
  refine aw_callV (y := yX12_noPerson) (M2 := mX12_noPerson) (as := [vI x1]) (S := [vR 171]) (t := 171) (d2 := (d + 1)) (b2 := 0) (b3 := b) cwX12_noPerson mlX12_386 imX12_noPerson seX12_noPerson (by decide +kernel) rfl (ci := 10) rfl (OB.at (ci := 10) (show shp 171 = (20, 0) by decide +kernel) (by decide)) (Nat.le_refl _) (Nat.le_of_eq (Nat.zero_add _)) rfl rfl (by simp [oneSlot]) (Nat.le_of_ble_eq_true rfl) (c_noPerson (fun hc => ?_) (fun hc => ?_))
  · have hF := hF.1 hc
    show AW Γ l mX12_guard (d + 2) b 11 [vR 171, vI x1, vI x2] [vI 1, vR 171] (stt (upd2 g 171 0 0)) K
    refine aw_iconst (n := 1) (by decide +kernel) ?_
    refine aw_callV (y := yX12_throwsIf) (M2 := mX12_throwsIf) (as := [vI 1, vI 1]) (S := []) (t := 171) (d2 := (d + 1)) (b2 := 0) (b3 := b) cwX12_throwsIf mlX12_279 imX12_throwsIf seX12_throwsIf (by decide +kernel) rfl (ci := 10) rfl (OB.at (ci := 10) (show shp 171 = (20, 0) by decide +kernel) (by decide)) (Nat.le_refl _) (Nat.le_of_eq (Nat.zero_add _)) rfl rfl (by simp [oneSlot]) (Nat.le_of_ble_eq_true rfl) (c_throwsIf1 ?_)
    show AW Γ l mX12_guard (d + 2) b 15 [vR 171, vI x1, vI x2] [vI 1] (stt (upd2 (upd2 g 171 0 0) 171 0 1)) K
    refine ax_if_ne (off := 26) (tgt := 41) (x' := 1) (by decide +kernel) (by decide) (by decide +kernel) (fun hc => ?_) (fun hc => absurd (by decide) hc)
    refine aw_iconst (n := 0) (by decide +kernel) ?_
    refine aw_goto (off := 13) (tgt := 55) (by decide +kernel) (by decide) ?_
    exact aw_iret (by decide +kernel) rfl hF
  · have hF := hF.2 hc
    show AW Γ l mX12_guard (d + 2) b 11 [vR 171, vI x1, vI x2] [vI 0, vR 171] (stt (upd2 g 171 0 0)) K
    refine aw_iconst (n := 1) (by decide +kernel) ?_
    refine aw_callV (y := yX12_throwsIf) (M2 := mX12_throwsIf) (as := [vI 0, vI 1]) (S := []) (t := 171) (d2 := (d + 1)) (b2 := 0) (b3 := b) cwX12_throwsIf mlX12_279 imX12_throwsIf seX12_throwsIf (by decide +kernel) rfl (ci := 10) rfl (OB.at (ci := 10) (show shp 171 = (20, 0) by decide +kernel) (by decide)) (Nat.le_refl _) (Nat.le_of_eq (Nat.zero_add _)) rfl rfl (by simp [oneSlot]) (Nat.le_of_ble_eq_true rfl) (c_throwsIf0 ?_)
    show AW Γ l mX12_guard (d + 2) b 15 [vR 171, vI x1, vI x2] [vI 0] (stt (upd2 g 171 0 0)) K
    refine ax_if_ne (off := 26) (tgt := 41) (x' := 0) (by decide +kernel) (by decide) (by decide +kernel) (fun hc => absurd hc (by decide)) (fun hc => ?_)
    refine aw_aload_n (k' := 0) (by decide +kernel) rfl ?_
    refine aw_iload_n (k' := 2) (by decide +kernel) rfl ?_
    refine aw_iconst (n := 0) (by decide +kernel) ?_
    refine aw_bipush (n := 9) (by decide +kernel) (by decide +kernel) ?_
    refine aw_callS (y := yX12_in) (M2 := mX12_in) (as := [vI x2, vI 0, vI 9]) (S := [vR 171]) (d2 := (d + 1)) (b2 := 0) (b3 := b) cwX12_in mlX12_91 stX12_in (by decide +kernel) rfl (Nat.le_refl _) (Nat.le_of_eq (Nat.zero_add _)) rfl rfl (by simp [oneSlot]) (Nat.le_of_ble_eq_true rfl) (c_in (x' := wr x2) (y' := 0) (z' := 9) rfl (by decide +kernel) (by decide +kernel) (fun hc => ?_) (fun hc => ?_))
    · have hF := hF.1 hc
      show AW Γ l mX12_guard (d + 2) b 26 [vR 171, vI x1, vI x2] [vI 1, vR 171] (stt (upd2 g 171 0 0)) K
      refine ax_if_ne (off := 7) (tgt := 33) (x' := 1) (by decide +kernel) (by decide) (by decide +kernel) (fun hc => ?_) (fun hc => absurd (by decide) hc)
      refine aw_iconst (n := 0) (by decide +kernel) ?_
      refine aw_iconst (n := 2) (by decide +kernel) ?_
      refine aw_callV (y := yX12_throwsIf) (M2 := mX12_throwsIf) (as := [vI 0, vI 2]) (S := []) (t := 171) (d2 := (d + 1)) (b2 := 0) (b3 := b) cwX12_throwsIf mlX12_279 imX12_throwsIf seX12_throwsIf (by decide +kernel) rfl (ci := 10) rfl (OB.at (ci := 10) (show shp 171 = (20, 0) by decide +kernel) (by decide)) (Nat.le_refl _) (Nat.le_of_eq (Nat.zero_add _)) rfl rfl (by simp [oneSlot]) (Nat.le_of_ble_eq_true rfl) (c_throwsIf0 ?_)
      show AW Γ l mX12_guard (d + 2) b 38 [vR 171, vI x1, vI x2] [vI 0] (stt (upd2 g 171 0 0)) K
      refine ax_if_eq (off := 7) (tgt := 45) (x' := 0) (by decide +kernel) (by decide) (by decide +kernel) (fun hc => ?_) (fun hc => absurd (by decide) hc)
      refine aw_aload_n (k' := 0) (by decide +kernel) rfl ?_
      refine aw_iload_n (k' := 1) (by decide +kernel) rfl ?_
      refine aw_iconst (n := 2) (by decide +kernel) ?_
      refine aw_callS (y := yX12_personAt) (M2 := mX12_personAt) (as := [vI x1, vI 2]) (S := [vR 171]) (d2 := (d + 1)) (b2 := 0) (b3 := b) cwX12_personAt mlX12_80 stX12_personAt (by decide +kernel) rfl (Nat.le_refl _) (Nat.le_of_eq (Nat.zero_add _)) rfl rfl (by simp [oneSlot]) (Nat.le_of_ble_eq_true rfl) (c_personAt ?_)
      show AW Γ l mX12_guard (d + 2) b 51 [vR 171, vI x1, vI x2] [vI (12 + 29 * x1 + 2), vR 171] (stt (upd2 g 171 0 0)) K
      refine aw_iload_n (k' := 2) (by decide +kernel) rfl ?_
      refine aw_callV (y := yX12_isNow) (M2 := mX12_isNow) (as := [vI (12 + 29 * x1 + 2), vI x2]) (S := []) (t := 171) (d2 := (d + 1)) (b2 := 0) (b3 := b) cwX12_isNow mlX12_417 imX12_isNow seX12_isNow (by decide +kernel) rfl (ci := 10) rfl (OB.at (ci := 10) (show shp 171 = (20, 0) by decide +kernel) (by decide)) (Nat.le_refl _) (Nat.le_of_eq (Nat.zero_add _)) rfl rfl (by simp [oneSlot]) (Nat.le_of_ble_eq_true rfl) (Ct.mono hF ?_)
      rintro o h' (⟨v1, g1, rfl, rfl, hG⟩ | ⟨E, g, rfl, rfl, hG⟩)
      · show AW Γ l mX12_guard (d + 2) b 55 [vR 171, vI x1, vI x2] [vI v1] (stt g1) K
        exact aw_iret (by decide +kernel) rfl hG
      · exact hG
    · have hF := hF.2 hc
      show AW Γ l mX12_guard (d + 2) b 26 [vR 171, vI x1, vI x2] [vI 0, vR 171] (stt (upd2 g 171 0 0)) K
      refine ax_if_ne (off := 7) (tgt := 33) (x' := 0) (by decide +kernel) (by decide) (by decide +kernel) (fun hc => absurd hc (by decide)) (fun hc => ?_)
      refine aw_iconst (n := 1) (by decide +kernel) ?_
      refine aw_goto (off := 4) (tgt := 34) (by decide +kernel) (by decide) ?_
      refine aw_iconst (n := 2) (by decide +kernel) ?_
      refine aw_callV (y := yX12_throwsIf) (M2 := mX12_throwsIf) (as := [vI 1, vI 2]) (S := []) (t := 171) (d2 := (d + 1)) (b2 := 0) (b3 := b) cwX12_throwsIf mlX12_279 imX12_throwsIf seX12_throwsIf (by decide +kernel) rfl (ci := 10) rfl (OB.at (ci := 10) (show shp 171 = (20, 0) by decide +kernel) (by decide)) (Nat.le_refl _) (Nat.le_of_eq (Nat.zero_add _)) rfl rfl (by simp [oneSlot]) (Nat.le_of_ble_eq_true rfl) (c_throwsIf1 ?_)
      show AW Γ l mX12_guard (d + 2) b 38 [vR 171, vI x1, vI x2] [vI 1] (stt (upd2 (upd2 g 171 0 0) 171 0 2)) K
      refine ax_if_eq (off := 7) (tgt := 45) (x' := 1) (by decide +kernel) (by decide) (by decide +kernel) (fun hc => absurd hc (by decide)) (fun hc => ?_)
      refine aw_iconst (n := 0) (by decide +kernel) ?_
      refine aw_goto (off := 13) (tgt := 55) (by decide +kernel) (by decide) ?_
      exact aw_iret (by decide +kernel) rfl hF

set_option maxHeartbeats 1000000 in
theorem wpX12_noise {Γ : Cfg} {l : Launch} {d b : Nat} {g : GG} {K : Ou → HP → Prop} {x1 : Int} (hF : (0 ≤ wr x1 ∧ wr x1 ≤ 100 → Ct Γ l d 0 yX12_isNow mX12_isNow [vR 171, vI 3, vI x1] (stt (upd2 g 171 0 0)) (bI (fun v1 g1 => K (.inl (vI v1)) (stt g1)) K)) ∧ (¬ (0 ≤ wr x1 ∧ wr x1 ≤ 100) → K (.inl (vI 0)) (stt (upd2 (upd2 g 171 0 0) 171 0 1)))) : Ct Γ l (d + 1) b yX12_noise mX12_noise [vR 171, vI x1] (stt g) K := by
  refine Ct.enter (L := [vR 171, vI x1]) rfl rfl rfl (by decide +kernel) (by simp [oneSlot]) (Nat.le_of_ble_eq_true rfl) rfl ?_
  refine aw_aload_n (k' := 0) (by decide +kernel) rfl ?_
  refine aw_iconst (n := 0) (by decide +kernel) ?_
  refine pfX12_3 rfl (by decide +kernel) (OB.at (ci := 10) (show shp 171 = (20, 0) by decide +kernel) (by decide)) ?_
  show AW Γ l mX12_noise (d + 1) b 5 [vR 171, vI x1] [] (stt (upd2 g 171 0 0)) K
  refine aw_aload_n (k' := 0) (by decide +kernel) rfl ?_
  refine aw_iload_n (k' := 1) (by decide +kernel) rfl ?_
  refine aw_iconst (n := 0) (by decide +kernel) ?_
  refine aw_bipush (n := 100) (by decide +kernel) (by decide +kernel) ?_
  refine aw_callS (y := yX12_in) (M2 := mX12_in) (as := [vI x1, vI 0, vI 100]) (S := [vR 171]) (d2 := d) (b2 := 0) (b3 := b) cwX12_in mlX12_91 stX12_in (by decide +kernel) rfl (Nat.le_refl _) (Nat.le_of_eq (Nat.zero_add _)) rfl rfl (by simp [oneSlot]) (Nat.le_of_ble_eq_true rfl) (c_in (x' := wr x1) (y' := 0) (z' := 100) rfl (by decide +kernel) (by decide +kernel) (fun hc => ?_) (fun hc => ?_))
  · have hF := hF.1 hc
    show AW Γ l mX12_noise (d + 1) b 13 [vR 171, vI x1] [vI 1, vR 171] (stt (upd2 g 171 0 0)) K
    refine ax_if_ne (off := 7) (tgt := 20) (x' := 1) (by decide +kernel) (by decide) (by decide +kernel) (fun hc => ?_) (fun hc => absurd (by decide) hc)
    refine aw_iconst (n := 0) (by decide +kernel) ?_
    refine aw_iconst (n := 1) (by decide +kernel) ?_
    refine aw_callV (y := yX12_throwsIf) (M2 := mX12_throwsIf) (as := [vI 0, vI 1]) (S := []) (t := 171) (d2 := d) (b2 := 0) (b3 := b) cwX12_throwsIf mlX12_279 imX12_throwsIf seX12_throwsIf (by decide +kernel) rfl (ci := 10) rfl (OB.at (ci := 10) (show shp 171 = (20, 0) by decide +kernel) (by decide)) (Nat.le_refl _) (Nat.le_of_eq (Nat.zero_add _)) rfl rfl (by simp [oneSlot]) (Nat.le_of_ble_eq_true rfl) (c_throwsIf0 ?_)
    show AW Γ l mX12_noise (d + 1) b 25 [vR 171, vI x1] [vI 0] (stt (upd2 g 171 0 0)) K
    refine ax_if_eq (off := 7) (tgt := 32) (x' := 0) (by decide +kernel) (by decide) (by decide +kernel) (fun hc => ?_) (fun hc => absurd (by decide) hc)
    refine aw_aload_n (k' := 0) (by decide +kernel) rfl ?_
    refine aw_iconst (n := 3) (by decide +kernel) ?_
    refine aw_iload_n (k' := 1) (by decide +kernel) rfl ?_
    refine aw_callV (y := yX12_isNow) (M2 := mX12_isNow) (as := [vI 3, vI x1]) (S := []) (t := 171) (d2 := d) (b2 := 0) (b3 := b) cwX12_isNow mlX12_417 imX12_isNow seX12_isNow (by decide +kernel) rfl (ci := 10) rfl (OB.at (ci := 10) (show shp 171 = (20, 0) by decide +kernel) (by decide)) (Nat.le_refl _) (Nat.le_of_eq (Nat.zero_add _)) rfl rfl (by simp [oneSlot]) (Nat.le_of_ble_eq_true rfl) (Ct.mono hF ?_)
    rintro o h' (⟨v1, g1, rfl, rfl, hG⟩ | ⟨E, g, rfl, rfl, hG⟩)
    · show AW Γ l mX12_noise (d + 1) b 38 [vR 171, vI x1] [vI v1] (stt g1) K
      exact aw_iret (by decide +kernel) rfl hG
    · exact hG
  · have hF := hF.2 hc
    show AW Γ l mX12_noise (d + 1) b 13 [vR 171, vI x1] [vI 0, vR 171] (stt (upd2 g 171 0 0)) K
    refine ax_if_ne (off := 7) (tgt := 20) (x' := 0) (by decide +kernel) (by decide) (by decide +kernel) (fun hc => absurd hc (by decide)) (fun hc => ?_)
    refine aw_iconst (n := 1) (by decide +kernel) ?_
    refine aw_goto (off := 4) (tgt := 21) (by decide +kernel) (by decide) ?_
    refine aw_iconst (n := 1) (by decide +kernel) ?_
    refine aw_callV (y := yX12_throwsIf) (M2 := mX12_throwsIf) (as := [vI 1, vI 1]) (S := []) (t := 171) (d2 := d) (b2 := 0) (b3 := b) cwX12_throwsIf mlX12_279 imX12_throwsIf seX12_throwsIf (by decide +kernel) rfl (ci := 10) rfl (OB.at (ci := 10) (show shp 171 = (20, 0) by decide +kernel) (by decide)) (Nat.le_refl _) (Nat.le_of_eq (Nat.zero_add _)) rfl rfl (by simp [oneSlot]) (Nat.le_of_ble_eq_true rfl) (c_throwsIf1 ?_)
    show AW Γ l mX12_noise (d + 1) b 25 [vR 171, vI x1] [vI 1] (stt (upd2 (upd2 g 171 0 0) 171 0 1)) K
    refine ax_if_eq (off := 7) (tgt := 32) (x' := 1) (by decide +kernel) (by decide) (by decide +kernel) (fun hc => absurd hc (by decide)) (fun hc => ?_)
    refine aw_iconst (n := 0) (by decide +kernel) ?_
    refine aw_goto (off := 9) (tgt := 38) (by decide +kernel) (by decide) ?_
    exact aw_iret (by decide +kernel) rfl hF

set_option maxHeartbeats 1000000 in
theorem wpX12_turn {Γ : Cfg} {l : Launch} {d b : Nat} {g : GG} {K : Ou → HP → Prop} {x1 : Int} {x2 : Int} (hF : (0 ≤ wr x1 ∧ wr x1 ≤ 3 → (0 ≤ wr x2 ∧ wr x2 ≤ 2 → Ct Γ l d 0 yX12_isNow mX12_isNow [vR 171, vI (8 + x1), vI x2] (stt (upd2 g 171 0 0)) (bI (fun v1 g1 => K (.inl (vI v1)) (stt g1)) K)) ∧ (¬ (0 ≤ wr x2 ∧ wr x2 ≤ 2) → K (.inl (vI 0)) (stt (upd2 (upd2 g 171 0 0) 171 0 2)))) ∧ (¬ (0 ≤ wr x1 ∧ wr x1 ≤ 3) → K (.inl (vI 0)) (stt (upd2 (upd2 g 171 0 0) 171 0 1)))) : Ct Γ l (d + 1) b yX12_turn mX12_turn [vR 171, vI x1, vI x2] (stt g) K := by
  refine Ct.enter (L := [vR 171, vI x1, vI x2]) rfl rfl rfl (by decide +kernel) (by simp [oneSlot]) (Nat.le_of_ble_eq_true rfl) rfl ?_
  refine aw_aload_n (k' := 0) (by decide +kernel) rfl ?_
  refine aw_iconst (n := 0) (by decide +kernel) ?_
  refine pfX12_3 rfl (by decide +kernel) (OB.at (ci := 10) (show shp 171 = (20, 0) by decide +kernel) (by decide)) ?_
  show AW Γ l mX12_turn (d + 1) b 5 [vR 171, vI x1, vI x2] [] (stt (upd2 g 171 0 0)) K
  refine aw_aload_n (k' := 0) (by decide +kernel) rfl ?_
  refine aw_iload_n (k' := 1) (by decide +kernel) rfl ?_
  refine aw_iconst (n := 0) (by decide +kernel) ?_
  refine aw_iconst (n := 3) (by decide +kernel) ?_
  refine aw_callS (y := yX12_in) (M2 := mX12_in) (as := [vI x1, vI 0, vI 3]) (S := [vR 171]) (d2 := d) (b2 := 0) (b3 := b) cwX12_in mlX12_91 stX12_in (by decide +kernel) rfl (Nat.le_refl _) (Nat.le_of_eq (Nat.zero_add _)) rfl rfl (by simp [oneSlot]) (Nat.le_of_ble_eq_true rfl) (c_in (x' := wr x1) (y' := 0) (z' := 3) rfl (by decide +kernel) (by decide +kernel) (fun hc => ?_) (fun hc => ?_))
  · have hF := hF.1 hc
    show AW Γ l mX12_turn (d + 1) b 12 [vR 171, vI x1, vI x2] [vI 1, vR 171] (stt (upd2 g 171 0 0)) K
    refine ax_if_ne (off := 7) (tgt := 19) (x' := 1) (by decide +kernel) (by decide) (by decide +kernel) (fun hc => ?_) (fun hc => absurd (by decide) hc)
    refine aw_iconst (n := 0) (by decide +kernel) ?_
    refine aw_iconst (n := 1) (by decide +kernel) ?_
    refine aw_callV (y := yX12_throwsIf) (M2 := mX12_throwsIf) (as := [vI 0, vI 1]) (S := []) (t := 171) (d2 := d) (b2 := 0) (b3 := b) cwX12_throwsIf mlX12_279 imX12_throwsIf seX12_throwsIf (by decide +kernel) rfl (ci := 10) rfl (OB.at (ci := 10) (show shp 171 = (20, 0) by decide +kernel) (by decide)) (Nat.le_refl _) (Nat.le_of_eq (Nat.zero_add _)) rfl rfl (by simp [oneSlot]) (Nat.le_of_ble_eq_true rfl) (c_throwsIf0 ?_)
    show AW Γ l mX12_turn (d + 1) b 24 [vR 171, vI x1, vI x2] [vI 0] (stt (upd2 g 171 0 0)) K
    refine ax_if_ne (off := 25) (tgt := 49) (x' := 0) (by decide +kernel) (by decide) (by decide +kernel) (fun hc => absurd hc (by decide)) (fun hc => ?_)
    refine aw_aload_n (k' := 0) (by decide +kernel) rfl ?_
    refine aw_iload_n (k' := 2) (by decide +kernel) rfl ?_
    refine aw_iconst (n := 0) (by decide +kernel) ?_
    refine aw_iconst (n := 2) (by decide +kernel) ?_
    refine aw_callS (y := yX12_in) (M2 := mX12_in) (as := [vI x2, vI 0, vI 2]) (S := [vR 171]) (d2 := d) (b2 := 0) (b3 := b) cwX12_in mlX12_91 stX12_in (by decide +kernel) rfl (Nat.le_refl _) (Nat.le_of_eq (Nat.zero_add _)) rfl rfl (by simp [oneSlot]) (Nat.le_of_ble_eq_true rfl) (c_in (x' := wr x2) (y' := 0) (z' := 2) rfl (by decide +kernel) (by decide +kernel) (fun hc => ?_) (fun hc => ?_))
    · have hF := hF.1 hc
      show AW Γ l mX12_turn (d + 1) b 34 [vR 171, vI x1, vI x2] [vI 1, vR 171] (stt (upd2 g 171 0 0)) K
      refine ax_if_ne (off := 7) (tgt := 41) (x' := 1) (by decide +kernel) (by decide) (by decide +kernel) (fun hc => ?_) (fun hc => absurd (by decide) hc)
      refine aw_iconst (n := 0) (by decide +kernel) ?_
      refine aw_iconst (n := 2) (by decide +kernel) ?_
      refine aw_callV (y := yX12_throwsIf) (M2 := mX12_throwsIf) (as := [vI 0, vI 2]) (S := []) (t := 171) (d2 := d) (b2 := 0) (b3 := b) cwX12_throwsIf mlX12_279 imX12_throwsIf seX12_throwsIf (by decide +kernel) rfl (ci := 10) rfl (OB.at (ci := 10) (show shp 171 = (20, 0) by decide +kernel) (by decide)) (Nat.le_refl _) (Nat.le_of_eq (Nat.zero_add _)) rfl rfl (by simp [oneSlot]) (Nat.le_of_ble_eq_true rfl) (c_throwsIf0 ?_)
      show AW Γ l mX12_turn (d + 1) b 46 [vR 171, vI x1, vI x2] [vI 0] (stt (upd2 g 171 0 0)) K
      refine ax_if_eq (off := 7) (tgt := 53) (x' := 0) (by decide +kernel) (by decide) (by decide +kernel) (fun hc => ?_) (fun hc => absurd (by decide) hc)
      refine aw_aload_n (k' := 0) (by decide +kernel) rfl ?_
      refine aw_bipush (n := 8) (by decide +kernel) (by decide +kernel) ?_
      refine aw_iload_n (k' := 1) (by decide +kernel) rfl ?_
      refine aw_iadd (by decide +kernel) ?_
      refine aw_iload_n (k' := 2) (by decide +kernel) rfl ?_
      refine aw_callV (y := yX12_isNow) (M2 := mX12_isNow) (as := [vI (8 + x1), vI x2]) (S := []) (t := 171) (d2 := d) (b2 := 0) (b3 := b) cwX12_isNow mlX12_417 imX12_isNow seX12_isNow (by decide +kernel) rfl (ci := 10) rfl (OB.at (ci := 10) (show shp 171 = (20, 0) by decide +kernel) (by decide)) (Nat.le_refl _) (Nat.le_of_eq (Nat.zero_add _)) rfl rfl (by simp [oneSlot]) (Nat.le_of_ble_eq_true rfl) (Ct.mono hF ?_)
      rintro o h' (⟨v1, g1, rfl, rfl, hG⟩ | ⟨E, g, rfl, rfl, hG⟩)
      · show AW Γ l mX12_turn (d + 1) b 62 [vR 171, vI x1, vI x2] [vI v1] (stt g1) K
        exact aw_iret (by decide +kernel) rfl hG
      · exact hG
    · have hF := hF.2 hc
      show AW Γ l mX12_turn (d + 1) b 34 [vR 171, vI x1, vI x2] [vI 0, vR 171] (stt (upd2 g 171 0 0)) K
      refine ax_if_ne (off := 7) (tgt := 41) (x' := 0) (by decide +kernel) (by decide) (by decide +kernel) (fun hc => absurd hc (by decide)) (fun hc => ?_)
      refine aw_iconst (n := 1) (by decide +kernel) ?_
      refine aw_goto (off := 4) (tgt := 42) (by decide +kernel) (by decide) ?_
      refine aw_iconst (n := 2) (by decide +kernel) ?_
      refine aw_callV (y := yX12_throwsIf) (M2 := mX12_throwsIf) (as := [vI 1, vI 2]) (S := []) (t := 171) (d2 := d) (b2 := 0) (b3 := b) cwX12_throwsIf mlX12_279 imX12_throwsIf seX12_throwsIf (by decide +kernel) rfl (ci := 10) rfl (OB.at (ci := 10) (show shp 171 = (20, 0) by decide +kernel) (by decide)) (Nat.le_refl _) (Nat.le_of_eq (Nat.zero_add _)) rfl rfl (by simp [oneSlot]) (Nat.le_of_ble_eq_true rfl) (c_throwsIf1 ?_)
      show AW Γ l mX12_turn (d + 1) b 46 [vR 171, vI x1, vI x2] [vI 1] (stt (upd2 (upd2 g 171 0 0) 171 0 2)) K
      refine ax_if_eq (off := 7) (tgt := 53) (x' := 1) (by decide +kernel) (by decide) (by decide +kernel) (fun hc => absurd hc (by decide)) (fun hc => ?_)
      refine aw_iconst (n := 0) (by decide +kernel) ?_
      refine aw_goto (off := 12) (tgt := 62) (by decide +kernel) (by decide) ?_
      exact aw_iret (by decide +kernel) rfl hF
  · have hF := hF.2 hc
    show AW Γ l mX12_turn (d + 1) b 12 [vR 171, vI x1, vI x2] [vI 0, vR 171] (stt (upd2 g 171 0 0)) K
    refine ax_if_ne (off := 7) (tgt := 19) (x' := 0) (by decide +kernel) (by decide) (by decide +kernel) (fun hc => absurd hc (by decide)) (fun hc => ?_)
    refine aw_iconst (n := 1) (by decide +kernel) ?_
    refine aw_goto (off := 4) (tgt := 20) (by decide +kernel) (by decide) ?_
    refine aw_iconst (n := 1) (by decide +kernel) ?_
    refine aw_callV (y := yX12_throwsIf) (M2 := mX12_throwsIf) (as := [vI 1, vI 1]) (S := []) (t := 171) (d2 := d) (b2 := 0) (b3 := b) cwX12_throwsIf mlX12_279 imX12_throwsIf seX12_throwsIf (by decide +kernel) rfl (ci := 10) rfl (OB.at (ci := 10) (show shp 171 = (20, 0) by decide +kernel) (by decide)) (Nat.le_refl _) (Nat.le_of_eq (Nat.zero_add _)) rfl rfl (by simp [oneSlot]) (Nat.le_of_ble_eq_true rfl) (c_throwsIf1 ?_)
    show AW Γ l mX12_turn (d + 1) b 24 [vR 171, vI x1, vI x2] [vI 1] (stt (upd2 (upd2 g 171 0 0) 171 0 1)) K
    refine ax_if_ne (off := 25) (tgt := 49) (x' := 1) (by decide +kernel) (by decide) (by decide +kernel) (fun hc => ?_) (fun hc => absurd (by decide) hc)
    refine aw_iconst (n := 0) (by decide +kernel) ?_
    refine aw_goto (off := 12) (tgt := 62) (by decide +kernel) (by decide) ?_
    exact aw_iret (by decide +kernel) rfl hF

set_option maxHeartbeats 1000000 in
theorem wpX12_repeat {Γ : Cfg} {l : Launch} {d b : Nat} {g : GG} {K : Ou → HP → Prop} {x1 : Int} {x2 : Int} (hF : (¬ (0 ≤ wr x1 ∧ wr x1 ≤ wr ((upd2 g 171 0 0) 172 0 - 1)) → K (.inl (vI 0)) (stt (upd2 (upd2 g 171 0 0) 171 0 1))) ∧ (¬ (¬ (0 ≤ wr x1 ∧ wr x1 ≤ wr ((upd2 g 171 0 0) 172 0 - 1))) → (¬ (0 ≤ wr x2 ∧ wr x2 ≤ wr ((upd2 g 171 0 0) 172 0 - 1)) → K (.inl (vI 0)) (stt (upd2 (upd2 g 171 0 0) 171 0 1))) ∧ (¬ (¬ (0 ≤ wr x2 ∧ wr x2 ≤ wr ((upd2 g 171 0 0) 172 0 - 1))) → (¬ wr x1 = wr x2 → (okP x1 3) ∧ ((wr (ofP (upd2 g 171 0 0) x1 3) = 0 → Ct Γ l (d + 1) 0 yX12_remembers mX12_remembers [vR 171] (stt (upd2 g 171 0 0)) (bV (fun g1 => (okP x2 0) ∧ ((0 ≤ wr (12 + 29 * x1 + 0) ∧ wr (12 + 29 * x1 + 0) < 2184) ∧ (∀ g2 : GG, g2 = upd2 g1 172 (wr (12 + 29 * x1 + 0)) (ofP g1 x2 0) → AW Γ l mX12_repeat (d + 2) b 98 [vR 171, vI x1, vI x2, vI 5] [] (stt g2) K))) K)) ∧ (¬ (wr (ofP (upd2 g 171 0 0) x1 3) = 0) → K (.inl (vI 0)) (stt (upd2 (upd2 g 171 0 0) 171 0 3))))) ∧ (¬ (¬ wr x1 = wr x2) → K (.inl (vI 0)) (stt (upd2 (upd2 g 171 0 0) 171 0 2)))))) : Ct Γ l (d + 2) b yX12_repeat mX12_repeat [vR 171, vI x1, vI x2] (stt g) K := by
  refine Ct.enter (L := [vR 171, vI x1, vI x2, vU]) rfl rfl rfl (by decide +kernel) (by simp [oneSlot]) (Nat.le_of_ble_eq_true rfl) rfl ?_
  refine aw_aload_n (k' := 0) (by decide +kernel) rfl ?_
  refine aw_iconst (n := 0) (by decide +kernel) ?_
  refine pfX12_3 rfl (by decide +kernel) (OB.at (ci := 10) (show shp 171 = (20, 0) by decide +kernel) (by decide)) ?_
  show AW Γ l mX12_repeat (d + 2) b 5 [vR 171, vI x1, vI x2, vU] [] (stt (upd2 g 171 0 0)) K
  refine aw_aload_n (k' := 0) (by decide +kernel) rfl ?_
  refine aw_aload_n (k' := 0) (by decide +kernel) rfl ?_
  refine aw_iload_n (k' := 1) (by decide +kernel) rfl ?_
  refine aw_callV (y := yX12_noPerson) (M2 := mX12_noPerson) (as := [vI x1]) (S := [vR 171]) (t := 171) (d2 := (d + 1)) (b2 := 0) (b3 := b) cwX12_noPerson mlX12_386 imX12_noPerson seX12_noPerson (by decide +kernel) rfl (ci := 10) rfl (OB.at (ci := 10) (show shp 171 = (20, 0) by decide +kernel) (by decide)) (Nat.le_refl _) (Nat.le_of_eq (Nat.zero_add _)) rfl rfl (by simp [oneSlot]) (Nat.le_of_ble_eq_true rfl) (c_noPerson (fun hc => ?_) (fun hc => ?_))
  · have hF := hF.1 hc
    show AW Γ l mX12_repeat (d + 2) b 11 [vR 171, vI x1, vI x2, vU] [vI 1, vR 171] (stt (upd2 g 171 0 0)) K
    refine ax_if_ne (off := 11) (tgt := 22) (x' := 1) (by decide +kernel) (by decide) (by decide +kernel) (fun hc => ?_) (fun hc => absurd (by decide) hc)
    refine aw_iconst (n := 1) (by decide +kernel) ?_
    refine aw_goto (off := 4) (tgt := 27) (by decide +kernel) (by decide) ?_
    refine aw_iconst (n := 1) (by decide +kernel) ?_
    refine aw_callV (y := yX12_throwsIf) (M2 := mX12_throwsIf) (as := [vI 1, vI 1]) (S := []) (t := 171) (d2 := (d + 1)) (b2 := 0) (b3 := b) cwX12_throwsIf mlX12_279 imX12_throwsIf seX12_throwsIf (by decide +kernel) rfl (ci := 10) rfl (OB.at (ci := 10) (show shp 171 = (20, 0) by decide +kernel) (by decide)) (Nat.le_refl _) (Nat.le_of_eq (Nat.zero_add _)) rfl rfl (by simp [oneSlot]) (Nat.le_of_ble_eq_true rfl) (c_throwsIf1 ?_)
    show AW Γ l mX12_repeat (d + 2) b 31 [vR 171, vI x1, vI x2, vU] [vI 1] (stt (upd2 (upd2 g 171 0 0) 171 0 1)) K
    refine ax_if_ne (off := 43) (tgt := 74) (x' := 1) (by decide +kernel) (by decide) (by decide +kernel) (fun hc => ?_) (fun hc => absurd (by decide) hc)
    refine aw_iconst (n := 0) (by decide +kernel) ?_
    exact aw_iret (by decide +kernel) rfl hF
  · have hF := hF.2 hc
    show AW Γ l mX12_repeat (d + 2) b 11 [vR 171, vI x1, vI x2, vU] [vI 0, vR 171] (stt (upd2 g 171 0 0)) K
    refine ax_if_ne (off := 11) (tgt := 22) (x' := 0) (by decide +kernel) (by decide) (by decide +kernel) (fun hc => absurd hc (by decide)) (fun hc => ?_)
    refine aw_aload_n (k' := 0) (by decide +kernel) rfl ?_
    refine aw_iload_n (k' := 2) (by decide +kernel) rfl ?_
    refine aw_callV (y := yX12_noPerson) (M2 := mX12_noPerson) (as := [vI x2]) (S := [vR 171]) (t := 171) (d2 := (d + 1)) (b2 := 0) (b3 := b) cwX12_noPerson mlX12_386 imX12_noPerson seX12_noPerson (by decide +kernel) rfl (ci := 10) rfl (OB.at (ci := 10) (show shp 171 = (20, 0) by decide +kernel) (by decide)) (Nat.le_refl _) (Nat.le_of_eq (Nat.zero_add _)) rfl rfl (by simp [oneSlot]) (Nat.le_of_ble_eq_true rfl) (c_noPerson (fun hc => ?_) (fun hc => ?_))
    · have hF := hF.1 hc
      show AW Γ l mX12_repeat (d + 2) b 19 [vR 171, vI x1, vI x2, vU] [vI 1, vR 171] (stt (upd2 g 171 0 0)) K
      refine ax_if_eq (off := 7) (tgt := 26) (x' := 1) (by decide +kernel) (by decide) (by decide +kernel) (fun hc => absurd hc (by decide)) (fun hc => ?_)
      refine aw_iconst (n := 1) (by decide +kernel) ?_
      refine aw_goto (off := 4) (tgt := 27) (by decide +kernel) (by decide) ?_
      refine aw_iconst (n := 1) (by decide +kernel) ?_
      refine aw_callV (y := yX12_throwsIf) (M2 := mX12_throwsIf) (as := [vI 1, vI 1]) (S := []) (t := 171) (d2 := (d + 1)) (b2 := 0) (b3 := b) cwX12_throwsIf mlX12_279 imX12_throwsIf seX12_throwsIf (by decide +kernel) rfl (ci := 10) rfl (OB.at (ci := 10) (show shp 171 = (20, 0) by decide +kernel) (by decide)) (Nat.le_refl _) (Nat.le_of_eq (Nat.zero_add _)) rfl rfl (by simp [oneSlot]) (Nat.le_of_ble_eq_true rfl) (c_throwsIf1 ?_)
      show AW Γ l mX12_repeat (d + 2) b 31 [vR 171, vI x1, vI x2, vU] [vI 1] (stt (upd2 (upd2 g 171 0 0) 171 0 1)) K
      refine ax_if_ne (off := 43) (tgt := 74) (x' := 1) (by decide +kernel) (by decide) (by decide +kernel) (fun hc => ?_) (fun hc => absurd (by decide) hc)
      refine aw_iconst (n := 0) (by decide +kernel) ?_
      exact aw_iret (by decide +kernel) rfl hF
    · have hF := hF.2 hc
      show AW Γ l mX12_repeat (d + 2) b 19 [vR 171, vI x1, vI x2, vU] [vI 0, vR 171] (stt (upd2 g 171 0 0)) K
      refine ax_if_eq (off := 7) (tgt := 26) (x' := 0) (by decide +kernel) (by decide) (by decide +kernel) (fun hc => ?_) (fun hc => absurd (by decide) hc)
      refine aw_iconst (n := 0) (by decide +kernel) ?_
      refine aw_iconst (n := 1) (by decide +kernel) ?_
      refine aw_callV (y := yX12_throwsIf) (M2 := mX12_throwsIf) (as := [vI 0, vI 1]) (S := []) (t := 171) (d2 := (d + 1)) (b2 := 0) (b3 := b) cwX12_throwsIf mlX12_279 imX12_throwsIf seX12_throwsIf (by decide +kernel) rfl (ci := 10) rfl (OB.at (ci := 10) (show shp 171 = (20, 0) by decide +kernel) (by decide)) (Nat.le_refl _) (Nat.le_of_eq (Nat.zero_add _)) rfl rfl (by simp [oneSlot]) (Nat.le_of_ble_eq_true rfl) (c_throwsIf0 ?_)
      show AW Γ l mX12_repeat (d + 2) b 31 [vR 171, vI x1, vI x2, vU] [vI 0] (stt (upd2 g 171 0 0)) K
      refine ax_if_ne (off := 43) (tgt := 74) (x' := 0) (by decide +kernel) (by decide) (by decide +kernel) (fun hc => absurd hc (by decide)) (fun hc => ?_)
      refine aw_aload_n (k' := 0) (by decide +kernel) rfl ?_
      refine aw_iload_n (k' := 1) (by decide +kernel) rfl ?_
      refine aw_iload_n (k' := 2) (by decide +kernel) rfl ?_
      refine ax_icmp_ne (off := 7) (tgt := 44) (x' := wr x1) (y' := wr x2) (by decide +kernel) (by decide) rfl rfl (fun hc => ?_) (fun hc => ?_)
      · have hF := hF.1 hc
        refine aw_iconst (n := 0) (by decide +kernel) ?_
        refine aw_iconst (n := 2) (by decide +kernel) ?_
        refine aw_callV (y := yX12_throwsIf) (M2 := mX12_throwsIf) (as := [vI 0, vI 2]) (S := []) (t := 171) (d2 := (d + 1)) (b2 := 0) (b3 := b) cwX12_throwsIf mlX12_279 imX12_throwsIf seX12_throwsIf (by decide +kernel) rfl (ci := 10) rfl (OB.at (ci := 10) (show shp 171 = (20, 0) by decide +kernel) (by decide)) (Nat.le_refl _) (Nat.le_of_eq (Nat.zero_add _)) rfl rfl (by simp [oneSlot]) (Nat.le_of_ble_eq_true rfl) (c_throwsIf0 ?_)
        show AW Γ l mX12_repeat (d + 2) b 49 [vR 171, vI x1, vI x2, vU] [vI 0] (stt (upd2 g 171 0 0)) K
        refine ax_if_ne (off := 25) (tgt := 74) (x' := 0) (by decide +kernel) (by decide) (by decide +kernel) (fun hc => absurd hc (by decide)) (fun hc => ?_)
        refine aw_aload_n (k' := 0) (by decide +kernel) rfl ?_
        refine aw_aload_n (k' := 0) (by decide +kernel) rfl ?_
        refine aw_iload_n (k' := 1) (by decide +kernel) rfl ?_
        refine aw_iconst (n := 3) (by decide +kernel) ?_
        refine aw_callV (y := yX12_of) (M2 := mX12_of) (as := [vI x1, vI 3]) (S := [vR 171]) (t := 171) (d2 := (d + 1)) (b2 := 0) (b3 := b) cwX12_of mlX12_84 imX12_of seX12_of (by decide +kernel) rfl (ci := 10) rfl (OB.at (ci := 10) (show shp 171 = (20, 0) by decide +kernel) (by decide)) (Nat.le_refl _) (Nat.le_of_eq (Nat.zero_add _)) rfl rfl (by simp [oneSlot]) (Nat.le_of_ble_eq_true rfl) (c_of hF.1 ?_)
        show AW Γ l mX12_repeat (d + 2) b 59 [vR 171, vI x1, vI x2, vU] [vI (ofP (upd2 g 171 0 0) x1 3), vR 171] (stt (upd2 g 171 0 0)) K
        replace hF := hF.2
        refine ax_if_eq (off := 7) (tgt := 66) (x' := wr (ofP (upd2 g 171 0 0) x1 3)) (by decide +kernel) (by decide) rfl (fun hc => ?_) (fun hc => ?_)
        · have hF := hF.1 hc
          refine aw_iconst (n := 0) (by decide +kernel) ?_
          refine aw_iconst (n := 3) (by decide +kernel) ?_
          refine aw_callV (y := yX12_throwsIf) (M2 := mX12_throwsIf) (as := [vI 0, vI 3]) (S := []) (t := 171) (d2 := (d + 1)) (b2 := 0) (b3 := b) cwX12_throwsIf mlX12_279 imX12_throwsIf seX12_throwsIf (by decide +kernel) rfl (ci := 10) rfl (OB.at (ci := 10) (show shp 171 = (20, 0) by decide +kernel) (by decide)) (Nat.le_refl _) (Nat.le_of_eq (Nat.zero_add _)) rfl rfl (by simp [oneSlot]) (Nat.le_of_ble_eq_true rfl) (c_throwsIf0 ?_)
          show AW Γ l mX12_repeat (d + 2) b 71 [vR 171, vI x1, vI x2, vU] [vI 0] (stt (upd2 g 171 0 0)) K
          refine ax_if_eq (off := 5) (tgt := 76) (x' := 0) (by decide +kernel) (by decide) (by decide +kernel) (fun hc => ?_) (fun hc => absurd (by decide) hc)
          refine aw_aload_n (k' := 0) (by decide +kernel) rfl ?_
          refine aw_callV (y := yX12_remembers) (M2 := mX12_remembers) (as := []) (S := []) (t := 171) (d2 := (d + 1)) (b2 := 0) (b3 := b) cwX12_remembers mlX12_408 imX12_remembers seX12_remembers (by decide +kernel) rfl (ci := 10) rfl (OB.at (ci := 10) (show shp 171 = (20, 0) by decide +kernel) (by decide)) (Nat.le_refl _) (Nat.le_of_eq (Nat.zero_add _)) rfl rfl (by simp [oneSlot]) (Nat.le_of_ble_eq_true rfl) (Ct.mono hF ?_)
          rintro o h' (⟨g1, rfl, rfl, hG⟩ | ⟨E, g, rfl, rfl, hG⟩)
          · show AW Γ l mX12_repeat (d + 2) b 80 [vR 171, vI x1, vI x2, vU] [] (stt g1) K
            refine aw_aload_n (k' := 0) (by decide +kernel) rfl ?_
            refine gfX12_13 rfl (by decide +kernel) (OB.at (ci := 10) (show shp 171 = (20, 0) by decide +kernel) (by decide)) ?_
            refine AW.topR (show RC 171 1 = 172 by decide +kernel) ?_
            refine aw_iload_n (k' := 1) (by decide +kernel) rfl ?_
            refine aw_iconst (n := 0) (by decide +kernel) ?_
            refine aw_callS (y := yX12_personAt) (M2 := mX12_personAt) (as := [vI x1, vI 0]) (S := [vR 172]) (d2 := (d + 1)) (b2 := 0) (b3 := b) cwX12_personAt mlX12_80 stX12_personAt (by decide +kernel) rfl (Nat.le_refl _) (Nat.le_of_eq (Nat.zero_add _)) rfl rfl (by simp [oneSlot]) (Nat.le_of_ble_eq_true rfl) (c_personAt ?_)
            show AW Γ l mX12_repeat (d + 2) b 89 [vR 171, vI x1, vI x2, vU] [vI (12 + 29 * x1 + 0), vR 172] (stt g1) K
            refine aw_aload_n (k' := 0) (by decide +kernel) rfl ?_
            refine aw_iload_n (k' := 2) (by decide +kernel) rfl ?_
            refine aw_iconst (n := 0) (by decide +kernel) ?_
            refine aw_callV (y := yX12_of) (M2 := mX12_of) (as := [vI x2, vI 0]) (S := [vI (12 + 29 * x1 + 0), vR 172]) (t := 171) (d2 := (d + 1)) (b2 := 0) (b3 := b) cwX12_of mlX12_84 imX12_of seX12_of (by decide +kernel) rfl (ci := 10) rfl (OB.at (ci := 10) (show shp 171 = (20, 0) by decide +kernel) (by decide)) (Nat.le_refl _) (Nat.le_of_eq (Nat.zero_add _)) rfl rfl (by simp [oneSlot]) (Nat.le_of_ble_eq_true rfl) (c_of hG.1 ?_)
            show AW Γ l mX12_repeat (d + 2) b 95 [vR 171, vI x1, vI x2, vU] [vI (ofP g1 x2 0), vI (12 + 29 * x1 + 0), vR 172] (stt g1) K
            replace hG := hG.2
            refine ax_iast (i := wr (12 + 29 * x1 + 0)) (by decide +kernel) (isA_lit (show shp 172 = (0, 2184) by decide +kernel) (by decide)) rfl hG.1 ?_
            show AW Γ l mX12_repeat (d + 2) b 96 [vR 171, vI x1, vI x2, vU] [] (stt (upd2 g1 172 (wr (12 + 29 * x1 + 0)) (ofP g1 x2 0))) K
            replace hG := hG.2
            show AW Γ l mX12_repeat (d + 2) b 96 [vR 171, vI x1, vI x2, vU] [] (stt (upd2 g1 172 (wr (12 + 29 * x1 + 0)) (ofP g1 x2 0))) K
            generalize eg2 : upd2 g1 172 (wr (12 + 29 * x1 + 0)) (ofP g1 x2 0) = g2
            replace hG := hG g2 eg2.symm
            refine aw_iconst (n := 5) (by decide +kernel) ?_
            refine aw_istore_n (k' := 3) (by decide +kernel) (by decide) ?_
            show AW Γ l mX12_repeat (d + 2) b 98 [vR 171, vI x1, vI x2, vI 5] [] (stt g2) K
            exact hG
          · exact hG
        · have hF := hF.2 hc
          refine aw_iconst (n := 1) (by decide +kernel) ?_
          refine aw_goto (off := 4) (tgt := 67) (by decide +kernel) (by decide) ?_
          refine aw_iconst (n := 3) (by decide +kernel) ?_
          refine aw_callV (y := yX12_throwsIf) (M2 := mX12_throwsIf) (as := [vI 1, vI 3]) (S := []) (t := 171) (d2 := (d + 1)) (b2 := 0) (b3 := b) cwX12_throwsIf mlX12_279 imX12_throwsIf seX12_throwsIf (by decide +kernel) rfl (ci := 10) rfl (OB.at (ci := 10) (show shp 171 = (20, 0) by decide +kernel) (by decide)) (Nat.le_refl _) (Nat.le_of_eq (Nat.zero_add _)) rfl rfl (by simp [oneSlot]) (Nat.le_of_ble_eq_true rfl) (c_throwsIf1 ?_)
          show AW Γ l mX12_repeat (d + 2) b 71 [vR 171, vI x1, vI x2, vU] [vI 1] (stt (upd2 (upd2 g 171 0 0) 171 0 3)) K
          refine ax_if_eq (off := 5) (tgt := 76) (x' := 1) (by decide +kernel) (by decide) (by decide +kernel) (fun hc => absurd hc (by decide)) (fun hc => ?_)
          refine aw_iconst (n := 0) (by decide +kernel) ?_
          exact aw_iret (by decide +kernel) rfl hF
      · have hF := hF.2 hc
        refine aw_iconst (n := 1) (by decide +kernel) ?_
        refine aw_goto (off := 4) (tgt := 45) (by decide +kernel) (by decide) ?_
        refine aw_iconst (n := 2) (by decide +kernel) ?_
        refine aw_callV (y := yX12_throwsIf) (M2 := mX12_throwsIf) (as := [vI 1, vI 2]) (S := []) (t := 171) (d2 := (d + 1)) (b2 := 0) (b3 := b) cwX12_throwsIf mlX12_279 imX12_throwsIf seX12_throwsIf (by decide +kernel) rfl (ci := 10) rfl (OB.at (ci := 10) (show shp 171 = (20, 0) by decide +kernel) (by decide)) (Nat.le_refl _) (Nat.le_of_eq (Nat.zero_add _)) rfl rfl (by simp [oneSlot]) (Nat.le_of_ble_eq_true rfl) (c_throwsIf1 ?_)
        show AW Γ l mX12_repeat (d + 2) b 49 [vR 171, vI x1, vI x2, vU] [vI 1] (stt (upd2 (upd2 g 171 0 0) 171 0 2)) K
        refine ax_if_ne (off := 25) (tgt := 74) (x' := 1) (by decide +kernel) (by decide) (by decide +kernel) (fun hc => ?_) (fun hc => absurd (by decide) hc)
        refine aw_iconst (n := 0) (by decide +kernel) ?_
        exact aw_iret (by decide +kernel) rfl hF
set_option maxHeartbeats 1000000 in
theorem wpX12_repeat_98 {Γ : Cfg} {l : Launch} {d b : Nat} {g : GG} {K : Ou → HP → Prop} {x1 : Int} {x2 : Int} {y3 : Int} (hF : (29 ≤ wr y3 → (okP x1 0) ∧ (K (.inl (vI (ofP g x1 0))) (stt g))) ∧ (¬ (29 ≤ wr y3) → (okP x2 y3) ∧ ((0 ≤ wr (12 + 29 * x1 + y3) ∧ wr (12 + 29 * x1 + y3) < 2184) ∧ (∀ g1 : GG, g1 = upd2 g 172 (wr (12 + 29 * x1 + y3)) (ofP g x2 y3) → AW Γ l mX12_repeat (d + 2) b 98 [vR 171, vI x1, vI x2, vI (y3 + 1)] [] (stt g1) K)))) : AW Γ l mX12_repeat (d + 2) b 98 [vR 171, vI x1, vI x2, vI y3] [] (stt g) K := by
  refine aw_iload_n (k' := 3) (by decide +kernel) rfl ?_
  refine aw_bipush (n := 29) (by decide +kernel) (by decide +kernel) ?_
  refine ax_icmp_ge (off := 25) (tgt := 126) (x' := wr y3) (y' := 29) (by decide +kernel) (by decide) rfl (by decide +kernel) (fun hc => ?_) (fun hc => ?_)
  · have hF := hF.1 hc
    refine aw_aload_n (k' := 0) (by decide +kernel) rfl ?_
    refine aw_iload_n (k' := 1) (by decide +kernel) rfl ?_
    refine aw_iconst (n := 0) (by decide +kernel) ?_
    refine aw_callV (y := yX12_of) (M2 := mX12_of) (as := [vI x1, vI 0]) (S := []) (t := 171) (d2 := (d + 1)) (b2 := 0) (b3 := b) cwX12_of mlX12_84 imX12_of seX12_of (by decide +kernel) rfl (ci := 10) rfl (OB.at (ci := 10) (show shp 171 = (20, 0) by decide +kernel) (by decide)) (Nat.le_refl _) (Nat.le_of_eq (Nat.zero_add _)) rfl rfl (by simp [oneSlot]) (Nat.le_of_ble_eq_true rfl) (c_of hF.1 ?_)
    show AW Γ l mX12_repeat (d + 2) b 132 [vR 171, vI x1, vI x2, vI y3] [vI (ofP g x1 0)] (stt g) K
    replace hF := hF.2
    exact aw_iret (by decide +kernel) rfl hF
  · have hF := hF.2 hc
    refine aw_aload_n (k' := 0) (by decide +kernel) rfl ?_
    refine gfX12_13 rfl (by decide +kernel) (OB.at (ci := 10) (show shp 171 = (20, 0) by decide +kernel) (by decide)) ?_
    refine AW.topR (show RC 171 1 = 172 by decide +kernel) ?_
    refine aw_iload_n (k' := 1) (by decide +kernel) rfl ?_
    refine aw_iload_n (k' := 3) (by decide +kernel) rfl ?_
    refine aw_callS (y := yX12_personAt) (M2 := mX12_personAt) (as := [vI x1, vI y3]) (S := [vR 172]) (d2 := (d + 1)) (b2 := 0) (b3 := b) cwX12_personAt mlX12_80 stX12_personAt (by decide +kernel) rfl (Nat.le_refl _) (Nat.le_of_eq (Nat.zero_add _)) rfl rfl (by simp [oneSlot]) (Nat.le_of_ble_eq_true rfl) (c_personAt ?_)
    show AW Γ l mX12_repeat (d + 2) b 113 [vR 171, vI x1, vI x2, vI y3] [vI (12 + 29 * x1 + y3), vR 172] (stt g) K
    refine aw_aload_n (k' := 0) (by decide +kernel) rfl ?_
    refine aw_iload_n (k' := 2) (by decide +kernel) rfl ?_
    refine aw_iload_n (k' := 3) (by decide +kernel) rfl ?_
    refine aw_callV (y := yX12_of) (M2 := mX12_of) (as := [vI x2, vI y3]) (S := [vI (12 + 29 * x1 + y3), vR 172]) (t := 171) (d2 := (d + 1)) (b2 := 0) (b3 := b) cwX12_of mlX12_84 imX12_of seX12_of (by decide +kernel) rfl (ci := 10) rfl (OB.at (ci := 10) (show shp 171 = (20, 0) by decide +kernel) (by decide)) (Nat.le_refl _) (Nat.le_of_eq (Nat.zero_add _)) rfl rfl (by simp [oneSlot]) (Nat.le_of_ble_eq_true rfl) (c_of hF.1 ?_)
    show AW Γ l mX12_repeat (d + 2) b 119 [vR 171, vI x1, vI x2, vI y3] [vI (ofP g x2 y3), vI (12 + 29 * x1 + y3), vR 172] (stt g) K
    replace hF := hF.2
    refine ax_iast (i := wr (12 + 29 * x1 + y3)) (by decide +kernel) (isA_lit (show shp 172 = (0, 2184) by decide +kernel) (by decide)) rfl hF.1 ?_
    show AW Γ l mX12_repeat (d + 2) b 120 [vR 171, vI x1, vI x2, vI y3] [] (stt (upd2 g 172 (wr (12 + 29 * x1 + y3)) (ofP g x2 y3))) K
    replace hF := hF.2
    show AW Γ l mX12_repeat (d + 2) b 120 [vR 171, vI x1, vI x2, vI y3] [] (stt (upd2 g 172 (wr (12 + 29 * x1 + y3)) (ofP g x2 y3))) K
    generalize eg1 : upd2 g 172 (wr (12 + 29 * x1 + y3)) (ofP g x2 y3) = g1
    replace hF := hF g1 eg1.symm
    refine aw_iinc (i := 3) (n := 1) (by decide +kernel) rfl (by decide) ?_
    show AW Γ l mX12_repeat (d + 2) b 123 [vR 171, vI x1, vI x2, vI (y3 + 1)] [] (stt g1) K
    refine aw_goto (off := -25) (tgt := 98) (by decide +kernel) (by decide) ?_
    exact hF

set_option maxHeartbeats 1000000 in
theorem wpX12_laysUnits {Γ : Cfg} {l : Launch} {d b : Nat} {g : GG} {K : Ou → HP → Prop} {x1 : Int} (hF : AW Γ l mX12_laysUnits (d + 3) b 9 [vR 171, vI x1, vI 0, vI 0] [] (stt (upd2 g 171 27 0)) K) : Ct Γ l (d + 3) b yX12_laysUnits mX12_laysUnits [vR 171, vI x1] (stt g) K := by
  refine Ct.enter (L := [vR 171, vI x1, vU, vU]) rfl rfl rfl (by decide +kernel) (by simp [oneSlot]) (Nat.le_of_ble_eq_true rfl) rfl ?_
  refine aw_aload_n (k' := 0) (by decide +kernel) rfl ?_
  refine aw_iconst (n := 0) (by decide +kernel) ?_
  refine pfX12_420 rfl (by decide +kernel) (OB.at (ci := 10) (show shp 171 = (20, 0) by decide +kernel) (by decide)) ?_
  show AW Γ l mX12_laysUnits (d + 3) b 5 [vR 171, vI x1, vU, vU] [] (stt (upd2 g 171 27 0)) K
  refine aw_iconst (n := 0) (by decide +kernel) ?_
  refine aw_istore_n (k' := 2) (by decide +kernel) (by decide) ?_
  show AW Γ l mX12_laysUnits (d + 3) b 7 [vR 171, vI x1, vI 0, vU] [] (stt (upd2 g 171 27 0)) K
  refine aw_iconst (n := 0) (by decide +kernel) ?_
  refine aw_istore_n (k' := 3) (by decide +kernel) (by decide) ?_
  show AW Γ l mX12_laysUnits (d + 3) b 9 [vR 171, vI x1, vI 0, vI 0] [] (stt (upd2 g 171 27 0)) K
  exact hF
set_option maxHeartbeats 1000000 in
theorem wpX12_laysUnits_9 {Γ : Cfg} {l : Launch} {d b : Nat} {g : GG} {K : Ou → HP → Prop} {x1 : Int} {y2 : Int} {y3 : Int} (hF : (okP x1 0) ∧ ((wr (ofP g x1 0) ≤ wr y3 → K (.inl vU) (stt g)) ∧ (¬ (wr (ofP g x1 0) ≤ wr y3) → (¬ wr y2 = 0 → (0 ≤ wr ((g 171 27) - 1) ∧ wr ((g 171 27) - 1) < 12) ∧ ((0 ≤ wr ((g 171 27) - 1) ∧ wr ((g 171 27) - 1) < 12) ∧ (∀ g1 : GG, g1 = upd2 g 183 (wr ((g 171 27) - 1)) ((g 183 (wr ((g 171 27) - 1))) + 1) → (okP x1 (5 + 2 * y3)) ∧ ((¬ wr (ofP g1 x1 (5 + 2 * y3)) = 8 → (okP x1 (5 + 2 * y3)) ∧ ((¬ wr (ofP g1 x1 (5 + 2 * y3)) = 9 → AW Γ l mX12_laysUnits (d + 3) b 9 [vR 171, vI x1, vI (y2 + 0), vI (y3 + 1)] [] (stt g1) K) ∧ (¬ (¬ wr (ofP g1 x1 (5 + 2 * y3)) = 9) → AW Γ l mX12_laysUnits (d + 3) b 9 [vR 171, vI x1, vI (y2 + (-1)), vI (y3 + 1)] [] (stt g1) K))) ∧ (¬ (¬ wr (ofP g1 x1 (5 + 2 * y3)) = 8) → AW Γ l mX12_laysUnits (d + 3) b 9 [vR 171, vI x1, vI (y2 + 1), vI (y3 + 1)] [] (stt g1) K))))) ∧ (¬ (¬ wr y2 = 0) → (0 ≤ wr (g 171 27) ∧ wr (g 171 27) < 12) ∧ ((0 ≤ wr ((upd2 g 182 (wr (g 171 27)) y3) 171 27) ∧ wr ((upd2 g 182 (wr (g 171 27)) y3) 171 27) < 12) ∧ (∀ g2 : GG, g2 = upd2 (upd2 g 182 (wr (g 171 27)) y3) 183 (wr ((upd2 g 182 (wr (g 171 27)) y3) 171 27)) 0 → (0 ≤ wr (((upd2 g2 171 27 ((g2 171 27) + 1)) 171 27) - 1) ∧ wr (((upd2 g2 171 27 ((g2 171 27) + 1)) 171 27) - 1) < 12) ∧ ((0 ≤ wr (((upd2 g2 171 27 ((g2 171 27) + 1)) 171 27) - 1) ∧ wr (((upd2 g2 171 27 ((g2 171 27) + 1)) 171 27) - 1) < 12) ∧ (∀ g3 : GG, g3 = upd2 (upd2 g2 171 27 ((g2 171 27) + 1)) 183 (wr (((upd2 g2 171 27 ((g2 171 27) + 1)) 171 27) - 1)) (((upd2 g2 171 27 ((g2 171 27) + 1)) 183 (wr (((upd2 g2 171 27 ((g2 171 27) + 1)) 171 27) - 1))) + 1) → (okP x1 (5 + 2 * y3)) ∧ ((¬ wr (ofP g3 x1 (5 + 2 * y3)) = 8 → (okP x1 (5 + 2 * y3)) ∧ ((¬ wr (ofP g3 x1 (5 + 2 * y3)) = 9 → AW Γ l mX12_laysUnits (d + 3) b 9 [vR 171, vI x1, vI (y2 + 0), vI (y3 + 1)] [] (stt g3) K) ∧ (¬ (¬ wr (ofP g3 x1 (5 + 2 * y3)) = 9) → AW Γ l mX12_laysUnits (d + 3) b 9 [vR 171, vI x1, vI (y2 + (-1)), vI (y3 + 1)] [] (stt g3) K))) ∧ (¬ (¬ wr (ofP g3 x1 (5 + 2 * y3)) = 8) → AW Γ l mX12_laysUnits (d + 3) b 9 [vR 171, vI x1, vI (y2 + 1), vI (y3 + 1)] [] (stt g3) K)))))))))) : AW Γ l mX12_laysUnits (d + 3) b 9 [vR 171, vI x1, vI y2, vI y3] [] (stt g) K := by
  refine aw_iload_n (k' := 3) (by decide +kernel) rfl ?_
  refine aw_aload_n (k' := 0) (by decide +kernel) rfl ?_
  refine aw_iload_n (k' := 1) (by decide +kernel) rfl ?_
  refine aw_iconst (n := 0) (by decide +kernel) ?_
  refine aw_callV (y := yX12_of) (M2 := mX12_of) (as := [vI x1, vI 0]) (S := [vI y3]) (t := 171) (d2 := (d + 2)) (b2 := 0) (b3 := b) cwX12_of mlX12_84 imX12_of seX12_of (by decide +kernel) rfl (ci := 10) rfl (OB.at (ci := 10) (show shp 171 = (20, 0) by decide +kernel) (by decide)) (Nat.le_refl _) (Nat.le_of_eq (Nat.zero_add _)) rfl rfl (by simp [oneSlot]) (Nat.le_of_ble_eq_true rfl) (c_of hF.1 ?_)
  show AW Γ l mX12_laysUnits (d + 3) b 16 [vR 171, vI x1, vI y2, vI y3] [vI (ofP g x1 0), vI y3] (stt g) K
  replace hF := hF.2
  refine ax_icmp_ge (off := 92) (tgt := 108) (x' := wr y3) (y' := wr (ofP g x1 0)) (by decide +kernel) (by decide) rfl rfl (fun hc => ?_) (fun hc => ?_)
  · have hF := hF.1 hc
    exact aw_vret (by decide +kernel) rfl hF
  · have hF := hF.2 hc
    refine aw_iload_n (k' := 2) (by decide +kernel) rfl ?_
    refine ax_if_ne (off := 33) (tgt := 53) (x' := wr y2) (by decide +kernel) (by decide) rfl (fun hc => ?_) (fun hc => ?_)
    · have hF := hF.1 hc
      refine aw_aload_n (k' := 0) (by decide +kernel) rfl ?_
      refine gfX12_51 rfl (by decide +kernel) (OB.at (ci := 10) (show shp 171 = (20, 0) by decide +kernel) (by decide)) ?_
      refine AW.topR (show RC 171 26 = 183 by decide +kernel) ?_
      refine aw_aload_n (k' := 0) (by decide +kernel) rfl ?_
      refine gfX12_420 rfl (by decide +kernel) (OB.at (ci := 10) (show shp 171 = (20, 0) by decide +kernel) (by decide)) ?_
      refine aw_iconst (n := 1) (by decide +kernel) ?_
      refine aw_isub (by decide +kernel) ?_
      refine aw_dup2 (by decide +kernel) trivial trivial ?_
      refine ax_iald (i := wr ((g 171 27) - 1)) (by decide +kernel) (isA_lit (show shp 183 = (0, 12) by decide +kernel) (by decide)) rfl hF.1 ?_
      replace hF := hF.2
      refine aw_iconst (n := 1) (by decide +kernel) ?_
      refine aw_iadd (by decide +kernel) ?_
      refine ax_iast (i := wr ((g 171 27) - 1)) (by decide +kernel) (isA_lit (show shp 183 = (0, 12) by decide +kernel) (by decide)) rfl hF.1 ?_
      show AW Γ l mX12_laysUnits (d + 3) b 68 [vR 171, vI x1, vI y2, vI y3] [] (stt (upd2 g 183 (wr ((g 171 27) - 1)) ((g 183 (wr ((g 171 27) - 1))) + 1))) K
      replace hF := hF.2
      show AW Γ l mX12_laysUnits (d + 3) b 68 [vR 171, vI x1, vI y2, vI y3] [] (stt (upd2 g 183 (wr ((g 171 27) - 1)) ((g 183 (wr ((g 171 27) - 1))) + 1))) K
      generalize eg1 : upd2 g 183 (wr ((g 171 27) - 1)) ((g 183 (wr ((g 171 27) - 1))) + 1) = g1
      replace hF := hF g1 eg1.symm
      refine aw_iload_n (k' := 2) (by decide +kernel) rfl ?_
      refine aw_aload_n (k' := 0) (by decide +kernel) rfl ?_
      refine aw_iload_n (k' := 1) (by decide +kernel) rfl ?_
      refine aw_iload_n (k' := 3) (by decide +kernel) rfl ?_
      refine aw_callV (y := yX12_kindOf) (M2 := mX12_kindOf) (as := [vI x1, vI y3]) (S := [vI y2]) (t := 171) (d2 := (d + 2)) (b2 := 0) (b3 := b) cwX12_kindOf mlX12_303 imX12_kindOf seX12_kindOf (by decide +kernel) rfl (ci := 10) rfl (OB.at (ci := 10) (show shp 171 = (20, 0) by decide +kernel) (by decide)) (Nat.le_refl _) (Nat.le_of_eq (Nat.zero_add _)) rfl rfl (by simp [oneSlot]) (Nat.le_of_ble_eq_true rfl) (c_kindOf hF.1 ?_)
      show AW Γ l mX12_laysUnits (d + 3) b 75 [vR 171, vI x1, vI y2, vI y3] [vI (ofP g1 x1 (5 + 2 * y3)), vI y2] (stt g1) K
      replace hF := hF.2
      refine aw_bipush (n := 8) (by decide +kernel) (by decide +kernel) ?_
      refine ax_icmp_ne (off := 7) (tgt := 84) (x' := wr (ofP g1 x1 (5 + 2 * y3))) (y' := 8) (by decide +kernel) (by decide) rfl (by decide +kernel) (fun hc => ?_) (fun hc => ?_)
      · have hF := hF.1 hc
        refine aw_aload_n (k' := 0) (by decide +kernel) rfl ?_
        refine aw_iload_n (k' := 1) (by decide +kernel) rfl ?_
        refine aw_iload_n (k' := 3) (by decide +kernel) rfl ?_
        refine aw_callV (y := yX12_kindOf) (M2 := mX12_kindOf) (as := [vI x1, vI y3]) (S := [vI y2]) (t := 171) (d2 := (d + 2)) (b2 := 0) (b3 := b) cwX12_kindOf mlX12_303 imX12_kindOf seX12_kindOf (by decide +kernel) rfl (ci := 10) rfl (OB.at (ci := 10) (show shp 171 = (20, 0) by decide +kernel) (by decide)) (Nat.le_refl _) (Nat.le_of_eq (Nat.zero_add _)) rfl rfl (by simp [oneSlot]) (Nat.le_of_ble_eq_true rfl) (c_kindOf hF.1 ?_)
        show AW Γ l mX12_laysUnits (d + 3) b 90 [vR 171, vI x1, vI y2, vI y3] [vI (ofP g1 x1 (5 + 2 * y3)), vI y2] (stt g1) K
        replace hF := hF.2
        refine aw_bipush (n := 9) (by decide +kernel) (by decide +kernel) ?_
        refine ax_icmp_ne (off := 7) (tgt := 99) (x' := wr (ofP g1 x1 (5 + 2 * y3))) (y' := 9) (by decide +kernel) (by decide) rfl (by decide +kernel) (fun hc => ?_) (fun hc => ?_)
        · have hF := hF.1 hc
          refine aw_iconst (n := 0) (by decide +kernel) ?_
          refine aw_iadd (by decide +kernel) ?_
          refine aw_istore_n (k' := 2) (by decide +kernel) (by decide) ?_
          show AW Γ l mX12_laysUnits (d + 3) b 102 [vR 171, vI x1, vI (y2 + 0), vI y3] [] (stt g1) K
          refine aw_iinc (i := 3) (n := 1) (by decide +kernel) rfl (by decide) ?_
          show AW Γ l mX12_laysUnits (d + 3) b 105 [vR 171, vI x1, vI (y2 + 0), vI (y3 + 1)] [] (stt g1) K
          refine aw_goto (off := -96) (tgt := 9) (by decide +kernel) (by decide) ?_
          exact hF
        · have hF := hF.2 hc
          refine aw_iconst (n := -1) (by decide +kernel) ?_
          refine aw_goto (off := 4) (tgt := 100) (by decide +kernel) (by decide) ?_
          refine aw_iadd (by decide +kernel) ?_
          refine aw_istore_n (k' := 2) (by decide +kernel) (by decide) ?_
          show AW Γ l mX12_laysUnits (d + 3) b 102 [vR 171, vI x1, vI (y2 + (-1)), vI y3] [] (stt g1) K
          refine aw_iinc (i := 3) (n := 1) (by decide +kernel) rfl (by decide) ?_
          show AW Γ l mX12_laysUnits (d + 3) b 105 [vR 171, vI x1, vI (y2 + (-1)), vI (y3 + 1)] [] (stt g1) K
          refine aw_goto (off := -96) (tgt := 9) (by decide +kernel) (by decide) ?_
          exact hF
      · have hF := hF.2 hc
        refine aw_iconst (n := 1) (by decide +kernel) ?_
        refine aw_goto (off := 19) (tgt := 100) (by decide +kernel) (by decide) ?_
        refine aw_iadd (by decide +kernel) ?_
        refine aw_istore_n (k' := 2) (by decide +kernel) (by decide) ?_
        show AW Γ l mX12_laysUnits (d + 3) b 102 [vR 171, vI x1, vI (y2 + 1), vI y3] [] (stt g1) K
        refine aw_iinc (i := 3) (n := 1) (by decide +kernel) rfl (by decide) ?_
        show AW Γ l mX12_laysUnits (d + 3) b 105 [vR 171, vI x1, vI (y2 + 1), vI (y3 + 1)] [] (stt g1) K
        refine aw_goto (off := -96) (tgt := 9) (by decide +kernel) (by decide) ?_
        exact hF
    · have hF := hF.2 hc
      refine aw_aload_n (k' := 0) (by decide +kernel) rfl ?_
      refine gfX12_48 rfl (by decide +kernel) (OB.at (ci := 10) (show shp 171 = (20, 0) by decide +kernel) (by decide)) ?_
      refine AW.topR (show RC 171 25 = 182 by decide +kernel) ?_
      refine aw_aload_n (k' := 0) (by decide +kernel) rfl ?_
      refine gfX12_420 rfl (by decide +kernel) (OB.at (ci := 10) (show shp 171 = (20, 0) by decide +kernel) (by decide)) ?_
      refine aw_iload_n (k' := 3) (by decide +kernel) rfl ?_
      refine ax_iast (i := wr (g 171 27)) (by decide +kernel) (isA_lit (show shp 182 = (0, 12) by decide +kernel) (by decide)) rfl hF.1 ?_
      show AW Γ l mX12_laysUnits (d + 3) b 33 [vR 171, vI x1, vI y2, vI y3] [] (stt (upd2 g 182 (wr (g 171 27)) y3)) K
      replace hF := hF.2
      refine aw_aload_n (k' := 0) (by decide +kernel) rfl ?_
      refine gfX12_51 rfl (by decide +kernel) (OB.at (ci := 10) (show shp 171 = (20, 0) by decide +kernel) (by decide)) ?_
      refine AW.topR (show RC 171 26 = 183 by decide +kernel) ?_
      refine aw_aload_n (k' := 0) (by decide +kernel) rfl ?_
      refine gfX12_420 rfl (by decide +kernel) (OB.at (ci := 10) (show shp 171 = (20, 0) by decide +kernel) (by decide)) ?_
      refine aw_iconst (n := 0) (by decide +kernel) ?_
      refine ax_iast (i := wr ((upd2 g 182 (wr (g 171 27)) y3) 171 27)) (by decide +kernel) (isA_lit (show shp 183 = (0, 12) by decide +kernel) (by decide)) rfl hF.1 ?_
      show AW Γ l mX12_laysUnits (d + 3) b 43 [vR 171, vI x1, vI y2, vI y3] [] (stt (upd2 (upd2 g 182 (wr (g 171 27)) y3) 183 (wr ((upd2 g 182 (wr (g 171 27)) y3) 171 27)) 0)) K
      replace hF := hF.2
      show AW Γ l mX12_laysUnits (d + 3) b 43 [vR 171, vI x1, vI y2, vI y3] [] (stt (upd2 (upd2 g 182 (wr (g 171 27)) y3) 183 (wr ((upd2 g 182 (wr (g 171 27)) y3) 171 27)) 0)) K
      generalize eg2 : upd2 (upd2 g 182 (wr (g 171 27)) y3) 183 (wr ((upd2 g 182 (wr (g 171 27)) y3) 171 27)) 0 = g2
      replace hF := hF g2 eg2.symm
      refine aw_aload_n (k' := 0) (by decide +kernel) rfl ?_
      refine aw_dup (by decide +kernel) trivial ?_
      refine gfX12_420 rfl (by decide +kernel) (OB.at (ci := 10) (show shp 171 = (20, 0) by decide +kernel) (by decide)) ?_
      refine aw_iconst (n := 1) (by decide +kernel) ?_
      refine aw_iadd (by decide +kernel) ?_
      refine pfX12_420 rfl (by decide +kernel) (OB.at (ci := 10) (show shp 171 = (20, 0) by decide +kernel) (by decide)) ?_
      show AW Γ l mX12_laysUnits (d + 3) b 53 [vR 171, vI x1, vI y2, vI y3] [] (stt (upd2 g2 171 27 ((g2 171 27) + 1))) K
      refine aw_aload_n (k' := 0) (by decide +kernel) rfl ?_
      refine gfX12_51 rfl (by decide +kernel) (OB.at (ci := 10) (show shp 171 = (20, 0) by decide +kernel) (by decide)) ?_
      refine AW.topR (show RC 171 26 = 183 by decide +kernel) ?_
      refine aw_aload_n (k' := 0) (by decide +kernel) rfl ?_
      refine gfX12_420 rfl (by decide +kernel) (OB.at (ci := 10) (show shp 171 = (20, 0) by decide +kernel) (by decide)) ?_
      refine aw_iconst (n := 1) (by decide +kernel) ?_
      refine aw_isub (by decide +kernel) ?_
      refine aw_dup2 (by decide +kernel) trivial trivial ?_
      refine ax_iald (i := wr (((upd2 g2 171 27 ((g2 171 27) + 1)) 171 27) - 1)) (by decide +kernel) (isA_lit (show shp 183 = (0, 12) by decide +kernel) (by decide)) rfl hF.1 ?_
      replace hF := hF.2
      refine aw_iconst (n := 1) (by decide +kernel) ?_
      refine aw_iadd (by decide +kernel) ?_
      refine ax_iast (i := wr (((upd2 g2 171 27 ((g2 171 27) + 1)) 171 27) - 1)) (by decide +kernel) (isA_lit (show shp 183 = (0, 12) by decide +kernel) (by decide)) rfl hF.1 ?_
      show AW Γ l mX12_laysUnits (d + 3) b 68 [vR 171, vI x1, vI y2, vI y3] [] (stt (upd2 (upd2 g2 171 27 ((g2 171 27) + 1)) 183 (wr (((upd2 g2 171 27 ((g2 171 27) + 1)) 171 27) - 1)) (((upd2 g2 171 27 ((g2 171 27) + 1)) 183 (wr (((upd2 g2 171 27 ((g2 171 27) + 1)) 171 27) - 1))) + 1))) K
      replace hF := hF.2
      show AW Γ l mX12_laysUnits (d + 3) b 68 [vR 171, vI x1, vI y2, vI y3] [] (stt (upd2 (upd2 g2 171 27 ((g2 171 27) + 1)) 183 (wr (((upd2 g2 171 27 ((g2 171 27) + 1)) 171 27) - 1)) (((upd2 g2 171 27 ((g2 171 27) + 1)) 183 (wr (((upd2 g2 171 27 ((g2 171 27) + 1)) 171 27) - 1))) + 1))) K
      generalize eg3 : upd2 (upd2 g2 171 27 ((g2 171 27) + 1)) 183 (wr (((upd2 g2 171 27 ((g2 171 27) + 1)) 171 27) - 1)) (((upd2 g2 171 27 ((g2 171 27) + 1)) 183 (wr (((upd2 g2 171 27 ((g2 171 27) + 1)) 171 27) - 1))) + 1) = g3
      replace hF := hF g3 eg3.symm
      refine aw_iload_n (k' := 2) (by decide +kernel) rfl ?_
      refine aw_aload_n (k' := 0) (by decide +kernel) rfl ?_
      refine aw_iload_n (k' := 1) (by decide +kernel) rfl ?_
      refine aw_iload_n (k' := 3) (by decide +kernel) rfl ?_
      refine aw_callV (y := yX12_kindOf) (M2 := mX12_kindOf) (as := [vI x1, vI y3]) (S := [vI y2]) (t := 171) (d2 := (d + 2)) (b2 := 0) (b3 := b) cwX12_kindOf mlX12_303 imX12_kindOf seX12_kindOf (by decide +kernel) rfl (ci := 10) rfl (OB.at (ci := 10) (show shp 171 = (20, 0) by decide +kernel) (by decide)) (Nat.le_refl _) (Nat.le_of_eq (Nat.zero_add _)) rfl rfl (by simp [oneSlot]) (Nat.le_of_ble_eq_true rfl) (c_kindOf hF.1 ?_)
      show AW Γ l mX12_laysUnits (d + 3) b 75 [vR 171, vI x1, vI y2, vI y3] [vI (ofP g3 x1 (5 + 2 * y3)), vI y2] (stt g3) K
      replace hF := hF.2
      refine aw_bipush (n := 8) (by decide +kernel) (by decide +kernel) ?_
      refine ax_icmp_ne (off := 7) (tgt := 84) (x' := wr (ofP g3 x1 (5 + 2 * y3))) (y' := 8) (by decide +kernel) (by decide) rfl (by decide +kernel) (fun hc => ?_) (fun hc => ?_)
      · have hF := hF.1 hc
        refine aw_aload_n (k' := 0) (by decide +kernel) rfl ?_
        refine aw_iload_n (k' := 1) (by decide +kernel) rfl ?_
        refine aw_iload_n (k' := 3) (by decide +kernel) rfl ?_
        refine aw_callV (y := yX12_kindOf) (M2 := mX12_kindOf) (as := [vI x1, vI y3]) (S := [vI y2]) (t := 171) (d2 := (d + 2)) (b2 := 0) (b3 := b) cwX12_kindOf mlX12_303 imX12_kindOf seX12_kindOf (by decide +kernel) rfl (ci := 10) rfl (OB.at (ci := 10) (show shp 171 = (20, 0) by decide +kernel) (by decide)) (Nat.le_refl _) (Nat.le_of_eq (Nat.zero_add _)) rfl rfl (by simp [oneSlot]) (Nat.le_of_ble_eq_true rfl) (c_kindOf hF.1 ?_)
        show AW Γ l mX12_laysUnits (d + 3) b 90 [vR 171, vI x1, vI y2, vI y3] [vI (ofP g3 x1 (5 + 2 * y3)), vI y2] (stt g3) K
        replace hF := hF.2
        refine aw_bipush (n := 9) (by decide +kernel) (by decide +kernel) ?_
        refine ax_icmp_ne (off := 7) (tgt := 99) (x' := wr (ofP g3 x1 (5 + 2 * y3))) (y' := 9) (by decide +kernel) (by decide) rfl (by decide +kernel) (fun hc => ?_) (fun hc => ?_)
        · have hF := hF.1 hc
          refine aw_iconst (n := 0) (by decide +kernel) ?_
          refine aw_iadd (by decide +kernel) ?_
          refine aw_istore_n (k' := 2) (by decide +kernel) (by decide) ?_
          show AW Γ l mX12_laysUnits (d + 3) b 102 [vR 171, vI x1, vI (y2 + 0), vI y3] [] (stt g3) K
          refine aw_iinc (i := 3) (n := 1) (by decide +kernel) rfl (by decide) ?_
          show AW Γ l mX12_laysUnits (d + 3) b 105 [vR 171, vI x1, vI (y2 + 0), vI (y3 + 1)] [] (stt g3) K
          refine aw_goto (off := -96) (tgt := 9) (by decide +kernel) (by decide) ?_
          exact hF
        · have hF := hF.2 hc
          refine aw_iconst (n := -1) (by decide +kernel) ?_
          refine aw_goto (off := 4) (tgt := 100) (by decide +kernel) (by decide) ?_
          refine aw_iadd (by decide +kernel) ?_
          refine aw_istore_n (k' := 2) (by decide +kernel) (by decide) ?_
          show AW Γ l mX12_laysUnits (d + 3) b 102 [vR 171, vI x1, vI (y2 + (-1)), vI y3] [] (stt g3) K
          refine aw_iinc (i := 3) (n := 1) (by decide +kernel) rfl (by decide) ?_
          show AW Γ l mX12_laysUnits (d + 3) b 105 [vR 171, vI x1, vI (y2 + (-1)), vI (y3 + 1)] [] (stt g3) K
          refine aw_goto (off := -96) (tgt := 9) (by decide +kernel) (by decide) ?_
          exact hF
      · have hF := hF.2 hc
        refine aw_iconst (n := 1) (by decide +kernel) ?_
        refine aw_goto (off := 19) (tgt := 100) (by decide +kernel) (by decide) ?_
        refine aw_iadd (by decide +kernel) ?_
        refine aw_istore_n (k' := 2) (by decide +kernel) (by decide) ?_
        show AW Γ l mX12_laysUnits (d + 3) b 102 [vR 171, vI x1, vI (y2 + 1), vI y3] [] (stt g3) K
        refine aw_iinc (i := 3) (n := 1) (by decide +kernel) rfl (by decide) ?_
        show AW Γ l mX12_laysUnits (d + 3) b 105 [vR 171, vI x1, vI (y2 + 1), vI (y3 + 1)] [] (stt g3) K
        refine aw_goto (off := -96) (tgt := 9) (by decide +kernel) (by decide) ?_
        exact hF

