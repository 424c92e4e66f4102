/-! WALKS: the reference, part 1 -/
set_option maxHeartbeats 1000000 in
theorem wpX12_thrown {Γ : Cfg} {l : Launch} {d b : Nat} {g : GG} {K : Ou → HP → Prop}  (hF : K (.inl (vI (g 171 0))) (stt g)) : Ct Γ l d b yX12_thrown mX12_thrown [vR 171] (stt g) K := by
  refine Ct.enter (L := [vR 171]) rfl rfl rfl (by decide +kernel) (by simp [oneSlot]) (Nat.le_of_ble_eq_true rfl) rfl ?_
  refine aw_aload_n (k' := 0) (by decide +kernel) rfl ?_
  refine gfX12_3 rfl (by decide +kernel) (OB.at (ci := 10) (show shp 171 = (20, 0) by decide +kernel) (by decide)) ?_
  exact aw_iret (by decide +kernel) rfl hF

set_option maxHeartbeats 1000000 in
theorem wpX12_image {Γ : Cfg} {l : Launch} {d b : Nat} {g : GG} {K : Ou → HP → Prop}  (hF : AW Γ l mX12_image d b 7 [vR 171, vI 0] [] (stt (upd2 g 171 0 0)) K) : Ct Γ l d b yX12_image mX12_image [vR 171] (stt g) K := by
  refine Ct.enter (L := [vR 171, vU]) rfl rfl rfl (by decide +kernel) (by simp [oneSlot]) (Nat.le_of_ble_eq_true rfl) rfl ?_
  refine aw_aload_n (k' := 0) (by decide +kernel) rfl ?_
  refine aw_iconst (n := 0) (by decide +kernel) ?_
  refine pfX12_3 rfl (by decide +kernel) (OB.at (ci := 10) (show shp 171 = (20, 0) by decide +kernel) (by decide)) ?_
  show AW Γ l mX12_image d b 5 [vR 171, vU] [] (stt (upd2 g 171 0 0)) K
  refine aw_iconst (n := 0) (by decide +kernel) ?_
  refine aw_istore_n (k' := 1) (by decide +kernel) (by decide) ?_
  show AW Γ l mX12_image d b 7 [vR 171, vI 0] [] (stt (upd2 g 171 0 0)) K
  exact hF
set_option maxHeartbeats 1000000 in
theorem wpX12_image_7 {Γ : Cfg} {l : Launch} {d b : Nat} {g : GG} {K : Ou → HP → Prop} {y1 : Int} (hF : (1335 ≤ wr y1 → K (.inl vU) (stt (upd2 g 171 6 1))) ∧ (¬ (1335 ≤ wr y1) → (0 ≤ wr y1 ∧ wr y1 < 2184) ∧ ((0 ≤ wr y1 ∧ wr y1 < 1335) ∧ (AW Γ l mX12_image d b 7 [vR 171, vI (y1 + 1)] [] (stt (upd2 g 173 (wr y1) (g 172 (wr y1)))) K)))) : AW Γ l mX12_image d b 7 [vR 171, vI y1] [] (stt g) K := by
  refine aw_iload_n (k' := 1) (by decide +kernel) rfl ?_
  refine aw_sipush (n := 1335) (by decide +kernel) (by decide +kernel) ?_
  refine ax_icmp_ge (off := 21) (tgt := 32) (x' := wr y1) (y' := 1335) (by decide +kernel) (by decide) rfl (by decide +kernel) (fun hc => ?_) (fun hc => ?_)
  · have hF := hF.1 hc
    refine aw_aload_n (k' := 0) (by decide +kernel) rfl ?_
    refine aw_iconst (n := 1) (by decide +kernel) ?_
    refine pfX12_73 rfl (by decide +kernel) (OB.at (ci := 10) (show shp 171 = (20, 0) by decide +kernel) (by decide)) rfl rfl ?_
    show AW Γ l mX12_image d b 37 [vR 171, vI y1] [] (stt (upd2 g 171 6 1)) K
    exact aw_vret (by decide +kernel) rfl hF
  · have hF := hF.2 hc
    refine aw_aload_n (k' := 0) (by decide +kernel) rfl ?_
    refine gfX12_17 rfl (by decide +kernel) (OB.at (ci := 10) (show shp 171 = (20, 0) by decide +kernel) (by decide)) ?_
    refine AW.topR (show RC 171 2 = 173 by decide +kernel) ?_
    refine aw_iload_n (k' := 1) (by decide +kernel) rfl ?_
    refine aw_aload_n (k' := 0) (by decide +kernel) rfl ?_
    refine gfX12_13 rfl (by decide +kernel) (OB.at (ci := 10) (show shp 171 = (20, 0) by decide +kernel) (by decide)) ?_
    refine AW.topR (show RC 171 1 = 172 by decide +kernel) ?_
    refine aw_iload_n (k' := 1) (by decide +kernel) rfl ?_
    refine ax_iald (i := wr y1) (by decide +kernel) (isA_lit (show shp 172 = (0, 2184) by decide +kernel) (by decide)) rfl hF.1 ?_
    replace hF := hF.2
    refine ax_iast (i := wr y1) (by decide +kernel) (isA_lit (show shp 173 = (0, 1335) by decide +kernel) (by decide)) rfl hF.1 ?_
    show AW Γ l mX12_image d b 26 [vR 171, vI y1] [] (stt (upd2 g 173 (wr y1) (g 172 (wr y1)))) K
    replace hF := hF.2
    refine aw_iinc (i := 1) (n := 1) (by decide +kernel) rfl (by decide) ?_
    show AW Γ l mX12_image d b 29 [vR 171, vI (y1 + 1)] [] (stt (upd2 g 173 (wr y1) (g 172 (wr y1)))) K
    refine aw_goto (off := -22) (tgt := 7) (by decide +kernel) (by decide) ?_
    exact hF

set_option maxHeartbeats 1000000 in
theorem wpX12_back {Γ : Cfg} {l : Launch} {d b : Nat} {g : GG} {K : Ou → HP → Prop}  (hF : (¬ wr ((upd2 g 171 0 0) 171 6) = 0 → AW Γ l mX12_back d b 16 [vR 171, vI 0] [] (stt (upd2 g 171 0 0)) K) ∧ (¬ (¬ wr ((upd2 g 171 0 0) 171 6) = 0) → K (.inl (vI 0)) (stt (upd2 g 171 0 0)))) : Ct Γ l d b yX12_back mX12_back [vR 171] (stt g) K := by
  refine Ct.enter (L := [vR 171, vU]) rfl rfl rfl (by decide +kernel) (by simp [oneSlot]) (Nat.le_of_ble_eq_true rfl) rfl ?_
  refine aw_aload_n (k' := 0) (by decide +kernel) rfl ?_
  refine aw_iconst (n := 0) (by decide +kernel) ?_
  refine pfX12_3 rfl (by decide +kernel) (OB.at (ci := 10) (show shp 171 = (20, 0) by decide +kernel) (by decide)) ?_
  show AW Γ l mX12_back d b 5 [vR 171, vU] [] (stt (upd2 g 171 0 0)) K
  refine aw_aload_n (k' := 0) (by decide +kernel) rfl ?_
  refine gfX12_73 rfl (by decide +kernel) (OB.at (ci := 10) (show shp 171 = (20, 0) by decide +kernel) (by decide)) ?_
  refine ax_if_ne (off := 5) (tgt := 14) (x' := wr ((upd2 g 171 0 0) 171 6)) (by decide +kernel) (by decide) rfl (fun hc => ?_) (fun hc => ?_)
  · have hF := hF.1 hc
    refine aw_iconst (n := 0) (by decide +kernel) ?_
    refine aw_istore_n (k' := 1) (by decide +kernel) (by decide) ?_
    show AW Γ l mX12_back d b 16 [vR 171, vI 0] [] (stt (upd2 g 171 0 0)) K
    exact hF
  · have hF := hF.2 hc
    refine aw_iconst (n := 0) (by decide +kernel) ?_
    exact aw_zret (by decide +kernel) rfl rfl hF
set_option maxHeartbeats 1000000 in
theorem wpX12_back_16 {Γ : Cfg} {l : Launch} {d b : Nat} {g : GG} {K : Ou → HP → Prop} {y1 : Int} (hF : (1335 ≤ wr y1 → K (.inl (vI 1)) (stt (upd2 g 171 7 0))) ∧ (¬ (1335 ≤ wr y1) → (0 ≤ wr y1 ∧ wr y1 < 1335) ∧ ((0 ≤ wr y1 ∧ wr y1 < 2184) ∧ (AW Γ l mX12_back d b 16 [vR 171, vI (y1 + 1)] [] (stt (upd2 g 172 (wr y1) (g 173 (wr y1)))) K)))) : AW Γ l mX12_back d b 16 [vR 171, vI y1] [] (stt g) K := by
  refine aw_iload_n (k' := 1) (by decide +kernel) rfl ?_
  refine aw_sipush (n := 1335) (by decide +kernel) (by decide +kernel) ?_
  refine ax_icmp_ge (off := 21) (tgt := 41) (x' := wr y1) (y' := 1335) (by decide +kernel) (by decide) rfl (by decide +kernel) (fun hc => ?_) (fun hc => ?_)
  · have hF := hF.1 hc
    refine aw_aload_n (k' := 0) (by decide +kernel) rfl ?_
    refine aw_iconst (n := 0) (by decide +kernel) ?_
    refine pfX12_77 rfl (by decide +kernel) (OB.at (ci := 10) (show shp 171 = (20, 0) by decide +kernel) (by decide)) ?_
    show AW Γ l mX12_back d b 46 [vR 171, vI y1] [] (stt (upd2 g 171 7 0)) K
    refine aw_iconst (n := 1) (by decide +kernel) ?_
    exact aw_zret (by decide +kernel) rfl rfl hF
  · have hF := hF.2 hc
    refine aw_aload_n (k' := 0) (by decide +kernel) rfl ?_
    refine gfX12_13 rfl (by decide +kernel) (OB.at (ci := 10) (show shp 171 = (20, 0) by decide +kernel) (by decide)) ?_
    refine AW.topR (show RC 171 1 = 172 by decide +kernel) ?_
    refine aw_iload_n (k' := 1) (by decide +kernel) rfl ?_
    refine aw_aload_n (k' := 0) (by decide +kernel) rfl ?_
    refine gfX12_17 rfl (by decide +kernel) (OB.at (ci := 10) (show shp 171 = (20, 0) by decide +kernel) (by decide)) ?_
    refine AW.topR (show RC 171 2 = 173 by decide +kernel) ?_
    refine aw_iload_n (k' := 1) (by decide +kernel) rfl ?_
    refine ax_iald (i := wr y1) (by decide +kernel) (isA_lit (show shp 173 = (0, 1335) by decide +kernel) (by decide)) rfl hF.1 ?_
    replace hF := hF.2
    refine ax_iast (i := wr y1) (by decide +kernel) (isA_lit (show shp 172 = (0, 2184) by decide +kernel) (by decide)) rfl hF.1 ?_
    show AW Γ l mX12_back d b 35 [vR 171, vI y1] [] (stt (upd2 g 172 (wr y1) (g 173 (wr y1)))) K
    replace hF := hF.2
    refine aw_iinc (i := 1) (n := 1) (by decide +kernel) rfl (by decide) ?_
    show AW Γ l mX12_back d b 38 [vR 171, vI (y1 + 1)] [] (stt (upd2 g 172 (wr y1) (g 173 (wr y1)))) K
    refine aw_goto (off := -22) (tgt := 16) (by decide +kernel) (by decide) ?_
    exact hF

set_option maxHeartbeats 1000000 in
theorem wpX12_remembers {Γ : Cfg} {l : Launch} {d b : Nat} {g : GG} {K : Ou → HP → Prop}  (hF : (¬ wr (g 171 7) = 12 → AW Γ l mX12_remembers d b 55 [vR 171, vI 0] [] (stt (upd2 g 171 7 ((g 171 7) + 1))) K) ∧ (¬ (¬ wr (g 171 7) = 12) → AW Γ l mX12_remembers d b 11 [vR 171, vI 0] [] (stt g) K)) : Ct Γ l d b yX12_remembers mX12_remembers [vR 171] (stt g) K := by
  refine Ct.enter (L := [vR 171, vU]) rfl rfl rfl (by decide +kernel) (by simp [oneSlot]) (Nat.le_of_ble_eq_true rfl) rfl ?_
  refine aw_aload_n (k' := 0) (by decide +kernel) rfl ?_
  refine gfX12_77 rfl (by decide +kernel) (OB.at (ci := 10) (show shp 171 = (20, 0) by decide +kernel) (by decide)) ?_
  refine aw_bipush (n := 12) (by decide +kernel) (by decide +kernel) ?_
  refine ax_icmp_ne (off := 37) (tgt := 43) (x' := wr (g 171 7)) (y' := 12) (by decide +kernel) (by decide) rfl (by decide +kernel) (fun hc => ?_) (fun hc => ?_)
  · have hF := hF.1 hc
    refine aw_aload_n (k' := 0) (by decide +kernel) rfl ?_
    refine aw_dup (by decide +kernel) trivial ?_
    refine gfX12_77 rfl (by decide +kernel) (OB.at (ci := 10) (show shp 171 = (20, 0) by decide +kernel) (by decide)) ?_
    refine aw_iconst (n := 1) (by decide +kernel) ?_
    refine aw_iadd (by decide +kernel) ?_
    refine pfX12_77 rfl (by decide +kernel) (OB.at (ci := 10) (show shp 171 = (20, 0) by decide +kernel) (by decide)) ?_
    show AW Γ l mX12_remembers d b 53 [vR 171, vU] [] (stt (upd2 g 171 7 ((g 171 7) + 1))) K
    refine aw_iconst (n := 0) (by decide +kernel) ?_
    refine aw_istore_n (k' := 1) (by decide +kernel) (by decide) ?_
    show AW Γ l mX12_remembers d b 55 [vR 171, vI 0] [] (stt (upd2 g 171 7 ((g 171 7) + 1))) K
    exact hF
  · have hF := hF.2 hc
    refine aw_iconst (n := 0) (by decide +kernel) ?_
    refine aw_istore_n (k' := 1) (by decide +kernel) (by decide) ?_
    show AW Γ l mX12_remembers d b 11 [vR 171, vI 0] [] (stt g) K
    exact hF
set_option maxHeartbeats 1000000 in
theorem wpX12_remembers_11 {Γ : Cfg} {l : Launch} {d b : Nat} {g : GG} {K : Ou → HP → Prop} {y1 : Int} (hF : (5346 ≤ wr y1 → AW Γ l mX12_remembers d b 55 [vR 171, vI 0] [] (stt g) K) ∧ (¬ (5346 ≤ wr y1) → (0 ≤ wr (y1 + 486) ∧ wr (y1 + 486) < 5832) ∧ ((0 ≤ wr y1 ∧ wr y1 < 5832) ∧ (∀ g1 : GG, g1 = upd2 g 176 (wr y1) (g 176 (wr (y1 + 486))) → AW Γ l mX12_remembers d b 11 [vR 171, vI (y1 + 1)] [] (stt g1) K)))) : AW Γ l mX12_remembers d b 11 [vR 171, vI y1] [] (stt g) K := by
  refine aw_iload_n (k' := 1) (by decide +kernel) rfl ?_
  refine aw_sipush (n := 5346) (by decide +kernel) (by decide +kernel) ?_
  refine ax_icmp_ge (off := 25) (tgt := 40) (x' := wr y1) (y' := 5346) (by decide +kernel) (by decide) rfl (by decide +kernel) (fun hc => ?_) (fun hc => ?_)
  · have hF := hF.1 hc
    refine aw_goto (off := 13) (tgt := 53) (by decide +kernel) (by decide) ?_
    refine aw_iconst (n := 0) (by decide +kernel) ?_
    refine aw_istore_n (k' := 1) (by decide +kernel) (by decide) ?_
    show AW Γ l mX12_remembers d b 55 [vR 171, vI 0] [] (stt g) K
    exact hF
  · have hF := hF.2 hc
    refine aw_aload_n (k' := 0) (by decide +kernel) rfl ?_
    refine gfX12_26 rfl (by decide +kernel) (OB.at (ci := 10) (show shp 171 = (20, 0) by decide +kernel) (by decide)) ?_
    refine AW.topR (show RC 171 5 = 176 by decide +kernel) ?_
    refine aw_iload_n (k' := 1) (by decide +kernel) rfl ?_
    refine aw_aload_n (k' := 0) (by decide +kernel) rfl ?_
    refine gfX12_26 rfl (by decide +kernel) (OB.at (ci := 10) (show shp 171 = (20, 0) by decide +kernel) (by decide)) ?_
    refine AW.topR (show RC 171 5 = 176 by decide +kernel) ?_
    refine aw_iload_n (k' := 1) (by decide +kernel) rfl ?_
    refine aw_sipush (n := 486) (by decide +kernel) (by decide +kernel) ?_
    refine aw_iadd (by decide +kernel) ?_
    refine ax_iald (i := wr (y1 + 486)) (by decide +kernel) (isA_lit (show shp 176 = (0, 5832) by decide +kernel) (by decide)) rfl hF.1 ?_
    replace hF := hF.2
    refine ax_iast (i := wr y1) (by decide +kernel) (isA_lit (show shp 176 = (0, 5832) by decide +kernel) (by decide)) rfl hF.1 ?_
    show AW Γ l mX12_remembers d b 34 [vR 171, vI y1] [] (stt (upd2 g 176 (wr y1) (g 176 (wr (y1 + 486))))) K
    replace hF := hF.2
    show AW Γ l mX12_remembers d b 34 [vR 171, vI y1] [] (stt (upd2 g 176 (wr y1) (g 176 (wr (y1 + 486))))) K
    generalize eg1 : upd2 g 176 (wr y1) (g 176 (wr (y1 + 486))) = g1
    replace hF := hF g1 eg1.symm
    refine aw_iinc (i := 1) (n := 1) (by decide +kernel) rfl (by decide) ?_
    show AW Γ l mX12_remembers d b 37 [vR 171, vI (y1 + 1)] [] (stt g1) K
    refine aw_goto (off := -26) (tgt := 11) (by decide +kernel) (by decide) ?_
    exact hF
set_option maxHeartbeats 1000000 in
theorem wpX12_remembers_55 {Γ : Cfg} {l : Launch} {d b : Nat} {g : GG} {K : Ou → HP → Prop} {y1 : Int} (hF : (486 ≤ wr y1 → K (.inl vU) (stt g)) ∧ (¬ (486 ≤ wr y1) → (0 ≤ wr y1 ∧ wr y1 < 2184) ∧ ((0 ≤ wr ((486 * ((g 171 7) - 1)) + y1) ∧ wr ((486 * ((g 171 7) - 1)) + y1) < 5832) ∧ (∀ g1 : GG, g1 = upd2 g 176 (wr ((486 * ((g 171 7) - 1)) + y1)) (g 172 (wr y1)) → AW Γ l mX12_remembers d b 55 [vR 171, vI (y1 + 1)] [] (stt g1) K)))) : AW Γ l mX12_remembers d b 55 [vR 171, vI y1] [] (stt g) K := by
  refine aw_iload_n (k' := 1) (by decide +kernel) rfl ?_
  refine aw_sipush (n := 486) (by decide +kernel) (by decide +kernel) ?_
  refine ax_icmp_ge (off := 32) (tgt := 91) (x' := wr y1) (y' := 486) (by decide +kernel) (by decide) rfl (by decide +kernel) (fun hc => ?_) (fun hc => ?_)
  · have hF := hF.1 hc
    exact aw_vret (by decide +kernel) rfl hF
  · have hF := hF.2 hc
    refine aw_aload_n (k' := 0) (by decide +kernel) rfl ?_
    refine gfX12_26 rfl (by decide +kernel) (OB.at (ci := 10) (show shp 171 = (20, 0) by decide +kernel) (by decide)) ?_
    refine AW.topR (show RC 171 5 = 176 by decide +kernel) ?_
    refine aw_sipush (n := 486) (by decide +kernel) (by decide +kernel) ?_
    refine aw_aload_n (k' := 0) (by decide +kernel) rfl ?_
    refine gfX12_77 rfl (by decide +kernel) (OB.at (ci := 10) (show shp 171 = (20, 0) by decide +kernel) (by decide)) ?_
    refine aw_iconst (n := 1) (by decide +kernel) ?_
    refine aw_isub (by decide +kernel) ?_
    refine aw_imul (by decide +kernel) ?_
    refine aw_iload_n (k' := 1) (by decide +kernel) rfl ?_
    refine aw_iadd (by decide +kernel) ?_
    refine aw_aload_n (k' := 0) (by decide +kernel) rfl ?_
    refine gfX12_13 rfl (by decide +kernel) (OB.at (ci := 10) (show shp 171 = (20, 0) by decide +kernel) (by decide)) ?_
    refine AW.topR (show RC 171 1 = 172 by decide +kernel) ?_
    refine aw_iload_n (k' := 1) (by decide +kernel) rfl ?_
    refine ax_iald (i := wr y1) (by decide +kernel) (isA_lit (show shp 172 = (0, 2184) by decide +kernel) (by decide)) rfl hF.1 ?_
    replace hF := hF.2
    refine ax_iast (i := wr ((486 * ((g 171 7) - 1)) + y1)) (by decide +kernel) (isA_lit (show shp 176 = (0, 5832) by decide +kernel) (by decide)) rfl hF.1 ?_
    show AW Γ l mX12_remembers d b 85 [vR 171, vI y1] [] (stt (upd2 g 176 (wr ((486 * ((g 171 7) - 1)) + y1)) (g 172 (wr y1)))) K
    replace hF := hF.2
    show AW Γ l mX12_remembers d b 85 [vR 171, vI y1] [] (stt (upd2 g 176 (wr ((486 * ((g 171 7) - 1)) + y1)) (g 172 (wr y1)))) K
    generalize eg1 : upd2 g 176 (wr ((486 * ((g 171 7) - 1)) + y1)) (g 172 (wr y1)) = g1
    replace hF := hF g1 eg1.symm
    refine aw_iinc (i := 1) (n := 1) (by decide +kernel) rfl (by decide) ?_
    show AW Γ l mX12_remembers d b 88 [vR 171, vI (y1 + 1)] [] (stt g1) K
    refine aw_goto (off := -33) (tgt := 55) (by decide +kernel) (by decide) ?_
    exact hF

set_option maxHeartbeats 1000000 in
theorem wpX12_undo {Γ : Cfg} {l : Launch} {d b : Nat} {g : GG} {K : Ou → HP → Prop}  (hF : (¬ wr ((upd2 g 171 0 0) 171 7) = 0 → (∀ g1 : GG, g1 = upd2 (upd2 g 171 0 0) 171 7 (((upd2 g 171 0 0) 171 7) - 1) → AW Γ l mX12_undo d b 26 [vR 171, vI 0] [] (stt g1) K)) ∧ (¬ (¬ wr ((upd2 g 171 0 0) 171 7) = 0) → K (.inl (vI 0)) (stt (upd2 g 171 0 0)))) : Ct Γ l d b yX12_undo mX12_undo [vR 171] (stt g) K := by
  refine Ct.enter (L := [vR 171, vU]) rfl rfl rfl (by decide +kernel) (by simp [oneSlot]) (Nat.le_of_ble_eq_true rfl) rfl ?_
  refine aw_aload_n (k' := 0) (by decide +kernel) rfl ?_
  refine aw_iconst (n := 0) (by decide +kernel) ?_
  refine pfX12_3 rfl (by decide +kernel) (OB.at (ci := 10) (show shp 171 = (20, 0) by decide +kernel) (by decide)) ?_
  show AW Γ l mX12_undo d b 5 [vR 171, vU] [] (stt (upd2 g 171 0 0)) K
  refine aw_aload_n (k' := 0) (by decide +kernel) rfl ?_
  refine gfX12_77 rfl (by decide +kernel) (OB.at (ci := 10) (show shp 171 = (20, 0) by decide +kernel) (by decide)) ?_
  refine ax_if_ne (off := 5) (tgt := 14) (x' := wr ((upd2 g 171 0 0) 171 7)) (by decide +kernel) (by decide) rfl (fun hc => ?_) (fun hc => ?_)
  · have hF := hF.1 hc
    refine aw_aload_n (k' := 0) (by decide +kernel) rfl ?_
    refine aw_dup (by decide +kernel) trivial ?_
    refine gfX12_77 rfl (by decide +kernel) (OB.at (ci := 10) (show shp 171 = (20, 0) by decide +kernel) (by decide)) ?_
    refine aw_iconst (n := 1) (by decide +kernel) ?_
    refine aw_isub (by decide +kernel) ?_
    refine pfX12_77 rfl (by decide +kernel) (OB.at (ci := 10) (show shp 171 = (20, 0) by decide +kernel) (by decide)) ?_
    show AW Γ l mX12_undo d b 24 [vR 171, vU] [] (stt (upd2 (upd2 g 171 0 0) 171 7 (((upd2 g 171 0 0) 171 7) - 1))) K
    generalize eg1 : upd2 (upd2 g 171 0 0) 171 7 (((upd2 g 171 0 0) 171 7) - 1) = g1
    replace hF := hF g1 eg1.symm
    refine aw_iconst (n := 0) (by decide +kernel) ?_
    refine aw_istore_n (k' := 1) (by decide +kernel) (by decide) ?_
    show AW Γ l mX12_undo d b 26 [vR 171, vI 0] [] (stt g1) K
    exact hF
  · have hF := hF.2 hc
    refine aw_iconst (n := 0) (by decide +kernel) ?_
    exact aw_zret (by decide +kernel) rfl rfl hF
set_option maxHeartbeats 1000000 in
theorem wpX12_undo_26 {Γ : Cfg} {l : Launch} {d b : Nat} {g : GG} {K : Ou → HP → Prop} {y1 : Int} (hF : (486 ≤ wr y1 → K (.inl (vI 1)) (stt g)) ∧ (¬ (486 ≤ wr y1) → (0 ≤ wr ((486 * (g 171 7)) + y1) ∧ wr ((486 * (g 171 7)) + y1) < 5832) ∧ ((0 ≤ wr y1 ∧ wr y1 < 2184) ∧ (∀ g1 : GG, g1 = upd2 g 172 (wr y1) (g 176 (wr ((486 * (g 171 7)) + y1))) → AW Γ l mX12_undo d b 26 [vR 171, vI (y1 + 1)] [] (stt g1) K)))) : AW Γ l mX12_undo d b 26 [vR 171, vI y1] [] (stt g) K := by
  refine aw_iload_n (k' := 1) (by decide +kernel) rfl ?_
  refine aw_sipush (n := 486) (by decide +kernel) (by decide +kernel) ?_
  refine ax_icmp_ge (off := 30) (tgt := 60) (x' := wr y1) (y' := 486) (by decide +kernel) (by decide) rfl (by decide +kernel) (fun hc => ?_) (fun hc => ?_)
  · have hF := hF.1 hc
    refine aw_iconst (n := 1) (by decide +kernel) ?_
    exact aw_zret (by decide +kernel) rfl rfl hF
  · have hF := hF.2 hc
    refine aw_aload_n (k' := 0) (by decide +kernel) rfl ?_
    refine gfX12_13 rfl (by decide +kernel) (OB.at (ci := 10) (show shp 171 = (20, 0) by decide +kernel) (by decide)) ?_
    refine AW.topR (show RC 171 1 = 172 by decide +kernel) ?_
    refine aw_iload_n (k' := 1) (by decide +kernel) rfl ?_
    refine aw_aload_n (k' := 0) (by decide +kernel) rfl ?_
    refine gfX12_26 rfl (by decide +kernel) (OB.at (ci := 10) (show shp 171 = (20, 0) by decide +kernel) (by decide)) ?_
    refine AW.topR (show RC 171 5 = 176 by decide +kernel) ?_
    refine aw_sipush (n := 486) (by decide +kernel) (by decide +kernel) ?_
    refine aw_aload_n (k' := 0) (by decide +kernel) rfl ?_
    refine gfX12_77 rfl (by decide +kernel) (OB.at (ci := 10) (show shp 171 = (20, 0) by decide +kernel) (by decide)) ?_
    refine aw_imul (by decide +kernel) ?_
    refine aw_iload_n (k' := 1) (by decide +kernel) rfl ?_
    refine aw_iadd (by decide +kernel) ?_
    refine ax_iald (i := wr ((486 * (g 171 7)) + y1)) (by decide +kernel) (isA_lit (show shp 176 = (0, 5832) by decide +kernel) (by decide)) rfl hF.1 ?_
    replace hF := hF.2
    refine ax_iast (i := wr y1) (by decide +kernel) (isA_lit (show shp 172 = (0, 2184) by decide +kernel) (by decide)) rfl hF.1 ?_
    show AW Γ l mX12_undo d b 54 [vR 171, vI y1] [] (stt (upd2 g 172 (wr y1) (g 176 (wr ((486 * (g 171 7)) + y1))))) K
    replace hF := hF.2
    show AW Γ l mX12_undo d b 54 [vR 171, vI y1] [] (stt (upd2 g 172 (wr y1) (g 176 (wr ((486 * (g 171 7)) + y1))))) K
    generalize eg1 : upd2 g 172 (wr y1) (g 176 (wr ((486 * (g 171 7)) + y1))) = g1
    replace hF := hF g1 eg1.symm
    refine aw_iinc (i := 1) (n := 1) (by decide +kernel) rfl (by decide) ?_
    show AW Γ l mX12_undo d b 57 [vR 171, vI (y1 + 1)] [] (stt g1) K
    refine aw_goto (off := -31) (tgt := 26) (by decide +kernel) (by decide) ?_
    exact hF

set_option maxHeartbeats 1000000 in
theorem wpX12_keepsAll {Γ : Cfg} {l : Launch} {d b : Nat} {g : GG} {K : Ou → HP → Prop}  (hF : AW Γ l mX12_keepsAll d b 2 [vR 171, vI 0] [] (stt g) K) : Ct Γ l d b yX12_keepsAll mX12_keepsAll [vR 171] (stt g) K := by
  refine Ct.enter (L := [vR 171, vU]) rfl rfl rfl (by decide +kernel) (by simp [oneSlot]) (Nat.le_of_ble_eq_true rfl) rfl ?_
  refine aw_iconst (n := 0) (by decide +kernel) ?_
  refine aw_istore_n (k' := 1) (by decide +kernel) (by decide) ?_
  show AW Γ l mX12_keepsAll d b 2 [vR 171, vI 0] [] (stt g) K
  exact hF
set_option maxHeartbeats 1000000 in
theorem wpX12_keepsAll_2 {Γ : Cfg} {l : Launch} {d b : Nat} {g : GG} {K : Ou → HP → Prop} {y1 : Int} (hF : (486 ≤ wr y1 → K (.inl vU) (stt g)) ∧ (¬ (486 ≤ wr y1) → (0 ≤ wr y1 ∧ wr y1 < 2184) ∧ ((0 ≤ wr y1 ∧ wr y1 < 486) ∧ (AW Γ l mX12_keepsAll d b 2 [vR 171, vI (y1 + 1)] [] (stt (upd2 g 175 (wr y1) (g 172 (wr y1)))) K)))) : AW Γ l mX12_keepsAll d b 2 [vR 171, vI y1] [] (stt g) K := by
  refine aw_iload_n (k' := 1) (by decide +kernel) rfl ?_
  refine aw_sipush (n := 486) (by decide +kernel) (by decide +kernel) ?_
  refine ax_icmp_ge (off := 21) (tgt := 27) (x' := wr y1) (y' := 486) (by decide +kernel) (by decide) rfl (by decide +kernel) (fun hc => ?_) (fun hc => ?_)
  · have hF := hF.1 hc
    exact aw_vret (by decide +kernel) rfl hF
  · have hF := hF.2 hc
    refine aw_aload_n (k' := 0) (by decide +kernel) rfl ?_
    refine gfX12_23 rfl (by decide +kernel) (OB.at (ci := 10) (show shp 171 = (20, 0) by decide +kernel) (by decide)) ?_
    refine AW.topR (show RC 171 4 = 175 by decide +kernel) ?_
    refine aw_iload_n (k' := 1) (by decide +kernel) rfl ?_
    refine aw_aload_n (k' := 0) (by decide +kernel) rfl ?_
    refine gfX12_13 rfl (by decide +kernel) (OB.at (ci := 10) (show shp 171 = (20, 0) by decide +kernel) (by decide)) ?_
    refine AW.topR (show RC 171 1 = 172 by decide +kernel) ?_
    refine aw_iload_n (k' := 1) (by decide +kernel) rfl ?_
    refine ax_iald (i := wr y1) (by decide +kernel) (isA_lit (show shp 172 = (0, 2184) by decide +kernel) (by decide)) rfl hF.1 ?_
    replace hF := hF.2
    refine ax_iast (i := wr y1) (by decide +kernel) (isA_lit (show shp 175 = (0, 486) by decide +kernel) (by decide)) rfl hF.1 ?_
    show AW Γ l mX12_keepsAll d b 21 [vR 171, vI y1] [] (stt (upd2 g 175 (wr y1) (g 172 (wr y1)))) K
    replace hF := hF.2
    refine aw_iinc (i := 1) (n := 1) (by decide +kernel) rfl (by decide) ?_
    show AW Γ l mX12_keepsAll d b 24 [vR 171, vI (y1 + 1)] [] (stt (upd2 g 175 (wr y1) (g 172 (wr y1)))) K
    refine aw_goto (off := -22) (tgt := 2) (by decide +kernel) (by decide) ?_
    exact hF

set_option maxHeartbeats 1000000 in
theorem wpX12_bringsBack {Γ : Cfg} {l : Launch} {d b : Nat} {g : GG} {K : Ou → HP → Prop}  (hF : AW Γ l mX12_bringsBack d b 2 [vR 171, vI 0] [] (stt g) K) : Ct Γ l d b yX12_bringsBack mX12_bringsBack [vR 171] (stt g) K := by
  refine Ct.enter (L := [vR 171, vU]) rfl rfl rfl (by decide +kernel) (by simp [oneSlot]) (Nat.le_of_ble_eq_true rfl) rfl ?_
  refine aw_iconst (n := 0) (by decide +kernel) ?_
  refine aw_istore_n (k' := 1) (by decide +kernel) (by decide) ?_
  show AW Γ l mX12_bringsBack d b 2 [vR 171, vI 0] [] (stt g) K
  exact hF
set_option maxHeartbeats 1000000 in
theorem wpX12_bringsBack_2 {Γ : Cfg} {l : Launch} {d b : Nat} {g : GG} {K : Ou → HP → Prop} {y1 : Int} (hF : (486 ≤ wr y1 → K (.inl vU) (stt g)) ∧ (¬ (486 ≤ wr y1) → (0 ≤ wr y1 ∧ wr y1 < 486) ∧ ((0 ≤ wr y1 ∧ wr y1 < 2184) ∧ (AW Γ l mX12_bringsBack d b 2 [vR 171, vI (y1 + 1)] [] (stt (upd2 g 172 (wr y1) (g 175 (wr y1)))) K)))) : AW Γ l mX12_bringsBack d b 2 [vR 171, vI y1] [] (stt g) K := by
  refine aw_iload_n (k' := 1) (by decide +kernel) rfl ?_
  refine aw_sipush (n := 486) (by decide +kernel) (by decide +kernel) ?_
  refine ax_icmp_ge (off := 21) (tgt := 27) (x' := wr y1) (y' := 486) (by decide +kernel) (by decide) rfl (by decide +kernel) (fun hc => ?_) (fun hc => ?_)
  · have hF := hF.1 hc
    exact aw_vret (by decide +kernel) rfl hF
  · have hF := hF.2 hc
    refine aw_aload_n (k' := 0) (by decide +kernel) rfl ?_
    refine gfX12_13 rfl (by decide +kernel) (OB.at (ci := 10) (show shp 171 = (20, 0) by decide +kernel) (by decide)) ?_
    refine AW.topR (show RC 171 1 = 172 by decide +kernel) ?_
    refine aw_iload_n (k' := 1) (by decide +kernel) rfl ?_
    refine aw_aload_n (k' := 0) (by decide +kernel) rfl ?_
    refine gfX12_23 rfl (by decide +kernel) (OB.at (ci := 10) (show shp 171 = (20, 0) by decide +kernel) (by decide)) ?_
    refine AW.topR (show RC 171 4 = 175 by decide +kernel) ?_
    refine aw_iload_n (k' := 1) (by decide +kernel) rfl ?_
    refine ax_iald (i := wr y1) (by decide +kernel) (isA_lit (show shp 175 = (0, 486) by decide +kernel) (by decide)) rfl hF.1 ?_
    replace hF := hF.2
    refine ax_iast (i := wr y1) (by decide +kernel) (isA_lit (show shp 172 = (0, 2184) by decide +kernel) (by decide)) rfl hF.1 ?_
    show AW Γ l mX12_bringsBack d b 21 [vR 171, vI y1] [] (stt (upd2 g 172 (wr y1) (g 175 (wr y1)))) K
    replace hF := hF.2
    refine aw_iinc (i := 1) (n := 1) (by decide +kernel) rfl (by decide) ?_
    show AW Γ l mX12_bringsBack d b 24 [vR 171, vI (y1 + 1)] [] (stt (upd2 g 172 (wr y1) (g 175 (wr y1)))) K
    refine aw_goto (off := -22) (tgt := 2) (by decide +kernel) (by decide) ?_
    exact hF

set_option maxHeartbeats 1000000 in
theorem wpX12_allIn {Γ : Cfg} {l : Launch} {d b : Nat} {g : GG} {K : Ou → HP → Prop} {x1 : Int} (hF : AW Γ l mX12_allIn (d + 2) b 4 [vR 171, vI x1, vI 0, vI 0] [] (stt g) K) : Ct Γ l (d + 2) b yX12_allIn mX12_allIn [vR 171, vI x1] (stt g) K := by
  refine Ct.enter (L := [vR 171, vI x1, vU, vU]) rfl rfl rfl (by decide +kernel) (by simp [oneSlot]) (Nat.le_of_ble_eq_true rfl) rfl ?_
  refine aw_iconst (n := 0) (by decide +kernel) ?_
  refine aw_istore_n (k' := 2) (by decide +kernel) (by decide) ?_
  show AW Γ l mX12_allIn (d + 2) b 2 [vR 171, vI x1, vI 0, vU] [] (stt g) K
  refine aw_iconst (n := 0) (by decide +kernel) ?_
  refine aw_istore_n (k' := 3) (by decide +kernel) (by decide) ?_
  show AW Γ l mX12_allIn (d + 2) b 4 [vR 171, vI x1, vI 0, vI 0] [] (stt g) K
  exact hF
set_option maxHeartbeats 1000000 in
theorem wpX12_allIn_4 {Γ : Cfg} {l : Launch} {d b : Nat} {g : GG} {K : Ou → HP → Prop} {x1 : Int} {y2 : Int} {y3 : Int} (hF : (wr (g 172 0) ≤ wr y3 → K (.inl (vI y2)) (stt g)) ∧ (¬ (wr (g 172 0) ≤ wr y3) → (okP y3 3) ∧ ((¬ wr (ofP g y3 3) = wr x1 → AW Γ l mX12_allIn (d + 2) b 4 [vR 171, vI x1, vI (iOr y2 0), vI (y3 + 1)] [] (stt g) K) ∧ (¬ (¬ wr (ofP g y3 3) = wr x1) → AW Γ l mX12_allIn (d + 2) b 4 [vR 171, vI x1, vI (iOr y2 (iShl 1 y3)), vI (y3 + 1)] [] (stt g) K)))) : AW Γ l mX12_allIn (d + 2) b 4 [vR 171, vI x1, vI y2, vI y3] [] (stt g) K := by
  refine aw_iload_n (k' := 3) (by decide +kernel) rfl ?_
  refine aw_aload_n (k' := 0) (by decide +kernel) rfl ?_
  refine aw_callV (y := yX12_people) (M2 := mX12_people) (as := []) (S := [vI y3]) (t := 171) (d2 := (d + 1)) (b2 := 0) (b3 := b) cwX12_people mlX12_87 imX12_people seX12_people (by decide +kernel) rfl (ci := 10) rfl (OB.at (ci := 10) (show shp 171 = (20, 0) by decide +kernel) (by decide)) (Nat.le_refl _) (Nat.le_of_eq (Nat.zero_add _)) rfl rfl (by simp [oneSlot]) (Nat.le_of_ble_eq_true rfl) (c_people ?_)
  show AW Γ l mX12_allIn (d + 2) b 9 [vR 171, vI x1, vI y2, vI y3] [vI (g 172 0), vI y3] (stt g) K
  refine ax_icmp_ge (off := 29) (tgt := 38) (x' := wr y3) (y' := wr (g 172 0)) (by decide +kernel) (by decide) rfl rfl (fun hc => ?_) (fun hc => ?_)
  · have hF := hF.1 hc
    refine aw_iload_n (k' := 2) (by decide +kernel) rfl ?_
    exact aw_iret (by decide +kernel) rfl hF
  · have hF := hF.2 hc
    refine aw_iload_n (k' := 2) (by decide +kernel) rfl ?_
    refine aw_aload_n (k' := 0) (by decide +kernel) rfl ?_
    refine aw_iload_n (k' := 3) (by decide +kernel) rfl ?_
    refine aw_iconst (n := 3) (by decide +kernel) ?_
    refine aw_callV (y := yX12_of) (M2 := mX12_of) (as := [vI y3, vI 3]) (S := [vI y2]) (t := 171) (d2 := (d + 1)) (b2 := 0) (b3 := b) cwX12_of mlX12_84 imX12_of seX12_of (by decide +kernel) rfl (ci := 10) rfl (OB.at (ci := 10) (show shp 171 = (20, 0) by decide +kernel) (by decide)) (Nat.le_refl _) (Nat.le_of_eq (Nat.zero_add _)) rfl rfl (by simp [oneSlot]) (Nat.le_of_ble_eq_true rfl) (c_of hF.1 ?_)
    show AW Γ l mX12_allIn (d + 2) b 19 [vR 171, vI x1, vI y2, vI y3] [vI (ofP g y3 3), vI y2] (stt g) K
    replace hF := hF.2
    refine aw_iload_n (k' := 1) (by decide +kernel) rfl ?_
    refine ax_icmp_ne (off := 9) (tgt := 29) (x' := wr (ofP g y3 3)) (y' := wr x1) (by decide +kernel) (by decide) rfl rfl (fun hc => ?_) (fun hc => ?_)
    · have hF := hF.1 hc
      refine aw_iconst (n := 0) (by decide +kernel) ?_
      refine aw_ior (by decide +kernel) ?_
      refine aw_istore_n (k' := 2) (by decide +kernel) (by decide) ?_
      show AW Γ l mX12_allIn (d + 2) b 32 [vR 171, vI x1, vI (iOr y2 0), vI y3] [] (stt g) K
      refine aw_iinc (i := 3) (n := 1) (by decide +kernel) rfl (by decide) ?_
      show AW Γ l mX12_allIn (d + 2) b 35 [vR 171, vI x1, vI (iOr y2 0), vI (y3 + 1)] [] (stt g) K
      refine aw_goto (off := -31) (tgt := 4) (by decide +kernel) (by decide) ?_
      exact hF
    · have hF := hF.2 hc
      refine aw_iconst (n := 1) (by decide +kernel) ?_
      refine aw_iload_n (k' := 3) (by decide +kernel) rfl ?_
      refine aw_ishl (by decide +kernel) ?_
      refine aw_goto (off := 4) (tgt := 30) (by decide +kernel) (by decide) ?_
      refine aw_ior (by decide +kernel) ?_
      refine aw_istore_n (k' := 2) (by decide +kernel) (by decide) ?_
      show AW Γ l mX12_allIn (d + 2) b 32 [vR 171, vI x1, vI (iOr y2 (iShl 1 y3)), vI y3] [] (stt g) K
      refine aw_iinc (i := 3) (n := 1) (by decide +kernel) rfl (by decide) ?_
      show AW Γ l mX12_allIn (d + 2) b 35 [vR 171, vI x1, vI (iOr y2 (iShl 1 y3)), vI (y3 + 1)] [] (stt g) K
      refine aw_goto (off := -31) (tgt := 4) (by decide +kernel) (by decide) ?_
      exact hF

set_option maxHeartbeats 1000000 in
theorem wpX12_drawn {Γ : Cfg} {l : Launch} {d b : Nat} {g : GG} {K : Ou → HP → Prop} {x1 : Int} (hF : (∀ g1 : GG, g1 = upd2 g 172 7 ((1103515245 * (g 172 7)) + 12345) → wr x1 ≠ 0 ∧ (K (.inl (vI (iRem (iAnd (iShr (g1 172 7) 16) 32767) x1))) (stt g1)))) : Ct Γ l d b yX12_drawn mX12_drawn [vR 171, vI x1] (stt g) K := by
  refine Ct.enter (L := [vR 171, vI x1]) rfl rfl rfl (by decide +kernel) (by simp [oneSlot]) (Nat.le_of_ble_eq_true rfl) rfl ?_
  refine aw_aload_n (k' := 0) (by decide +kernel) rfl ?_
  refine gfX12_13 rfl (by decide +kernel) (OB.at (ci := 10) (show shp 171 = (20, 0) by decide +kernel) (by decide)) ?_
  refine AW.topR (show RC 171 1 = 172 by decide +kernel) ?_
  refine aw_bipush (n := 7) (by decide +kernel) (by decide +kernel) ?_
  refine aw_ldc (idx := 95) (z := 1103515245) (by decide +kernel) (tm8 93 (by decide +kernel) (by decide +kernel)) ?_
  refine aw_aload_n (k' := 0) (by decide +kernel) rfl ?_
  refine gfX12_13 rfl (by decide +kernel) (OB.at (ci := 10) (show shp 171 = (20, 0) by decide +kernel) (by decide)) ?_
  refine AW.topR (show RC 171 1 = 172 by decide +kernel) ?_
  refine aw_bipush (n := 7) (by decide +kernel) (by decide +kernel) ?_
  refine ax_iald (i := 7) (by decide +kernel) (isA_lit (show shp 172 = (0, 2184) by decide +kernel) (by decide)) (by decide +kernel) ⟨by decide, by decide⟩ ?_
  refine aw_imul (by decide +kernel) ?_
  refine aw_sipush (n := 12345) (by decide +kernel) (by decide +kernel) ?_
  refine aw_iadd (by decide +kernel) ?_
  refine ax_iast (i := 7) (by decide +kernel) (isA_lit (show shp 172 = (0, 2184) by decide +kernel) (by decide)) (by decide +kernel) ⟨by decide, by decide⟩ ?_
  show AW Γ l mX12_drawn d b 21 [vR 171, vI x1] [] (stt (upd2 g 172 7 ((1103515245 * (g 172 7)) + 12345))) K
  show AW Γ l mX12_drawn d b 21 [vR 171, vI x1] [] (stt (upd2 g 172 7 ((1103515245 * (g 172 7)) + 12345))) K
  generalize eg1 : upd2 g 172 7 ((1103515245 * (g 172 7)) + 12345) = g1
  replace hF := hF g1 eg1.symm
  refine aw_aload_n (k' := 0) (by decide +kernel) rfl ?_
  refine gfX12_13 rfl (by decide +kernel) (OB.at (ci := 10) (show shp 171 = (20, 0) by decide +kernel) (by decide)) ?_
  refine AW.topR (show RC 171 1 = 172 by decide +kernel) ?_
  refine aw_bipush (n := 7) (by decide +kernel) (by decide +kernel) ?_
  refine ax_iald (i := 7) (by decide +kernel) (isA_lit (show shp 172 = (0, 2184) by decide +kernel) (by decide)) (by decide +kernel) ⟨by decide, by decide⟩ ?_
  refine aw_bipush (n := 16) (by decide +kernel) (by decide +kernel) ?_
  refine aw_ishr (by decide +kernel) ?_
  refine aw_sipush (n := 32767) (by decide +kernel) (by decide +kernel) ?_
  refine aw_iand (by decide +kernel) ?_
  refine aw_iload_n (k' := 1) (by decide +kernel) rfl ?_
  refine aw_irem (by decide +kernel) hF.1 ?_
  replace hF := hF.2
  exact aw_iret (by decide +kernel) rfl hF

set_option maxHeartbeats 1000000 in
theorem wpX12_feed {Γ : Cfg} {l : Launch} {d b : Nat} {g : GG} {K : Ou → HP → Prop} {x1 : Int} {x2 : Int} {x3 : Int} {x4 : Int} {x5 : Int} (hF : (wr (((upd2 g 171 0 0) 171 9) + 20) ≤ 400 → (∀ g1 : GG, g1 = upd2 (upd2 (upd2 g 171 0 0) 178 0 x1) 178 1 x2 → (∀ g2 : GG, g2 = upd2 (upd2 (upd2 g1 178 2 x3) 178 3 x4) 178 4 x5 → AW Γ l mX12_feed d b 60 [vR 171, vI x1, vI x2, vI x3, vI x4, vI x5, vI 0] [] (stt g2) K))) ∧ (¬ (wr (((upd2 g 171 0 0) 171 9) + 20) ≤ 400) → K (.inl (vI (-1))) (stt (upd2 g 171 0 0)))) : Ct Γ l d b yX12_feed mX12_feed [vR 171, vI x1, vI x2, vI x3, vI x4, vI x5] (stt g) K := by
  refine Ct.enter (L := [vR 171, vI x1, vI x2, vI x3, vI x4, vI x5, vU]) rfl rfl rfl (by decide +kernel) (by simp [oneSlot]) (Nat.le_of_ble_eq_true rfl) rfl ?_
  refine aw_aload_n (k' := 0) (by decide +kernel) rfl ?_
  refine aw_iconst (n := 0) (by decide +kernel) ?_
  refine pfX12_3 rfl (by decide +kernel) (OB.at (ci := 10) (show shp 171 = (20, 0) by decide +kernel) (by decide)) ?_
  show AW Γ l mX12_feed d b 5 [vR 171, vI x1, vI x2, vI x3, vI x4, vI x5, vU] [] (stt (upd2 g 171 0 0)) K
  refine aw_aload_n (k' := 0) (by decide +kernel) rfl ?_
  refine gfX12_96 rfl (by decide +kernel) (OB.at (ci := 10) (show shp 171 = (20, 0) by decide +kernel) (by decide)) ?_
  refine aw_bipush (n := 20) (by decide +kernel) (by decide +kernel) ?_
  refine aw_iadd (by decide +kernel) ?_
  refine aw_sipush (n := 400) (by decide +kernel) (by decide +kernel) ?_
  refine ax_icmp_le (off := 5) (tgt := 20) (x' := wr (((upd2 g 171 0 0) 171 9) + 20)) (y' := 400) (by decide +kernel) (by decide) rfl (by decide +kernel) (fun hc => ?_) (fun hc => ?_)
  · have hF := hF.1 hc
    refine aw_aload_n (k' := 0) (by decide +kernel) rfl ?_
    refine gfX12_36 rfl (by decide +kernel) (OB.at (ci := 10) (show shp 171 = (20, 0) by decide +kernel) (by decide)) ?_
    refine AW.topR (show RC 171 15 = 178 by decide +kernel) ?_
    refine aw_iconst (n := 0) (by decide +kernel) ?_
    refine aw_iload_n (k' := 1) (by decide +kernel) rfl ?_
    refine ax_iast (i := 0) (by decide +kernel) (isA_lit (show shp 178 = (0, 5) by decide +kernel) (by decide)) (by decide +kernel) ⟨by decide, by decide⟩ ?_
    show AW Γ l mX12_feed d b 27 [vR 171, vI x1, vI x2, vI x3, vI x4, vI x5, vU] [] (stt (upd2 (upd2 g 171 0 0) 178 0 x1)) K
    refine aw_aload_n (k' := 0) (by decide +kernel) rfl ?_
    refine gfX12_36 rfl (by decide +kernel) (OB.at (ci := 10) (show shp 171 = (20, 0) by decide +kernel) (by decide)) ?_
    refine AW.topR (show RC 171 15 = 178 by decide +kernel) ?_
    refine aw_iconst (n := 1) (by decide +kernel) ?_
    refine aw_iload_n (k' := 2) (by decide +kernel) rfl ?_
    refine ax_iast (i := 1) (by decide +kernel) (isA_lit (show shp 178 = (0, 5) by decide +kernel) (by decide)) (by decide +kernel) ⟨by decide, by decide⟩ ?_
    show AW Γ l mX12_feed d b 34 [vR 171, vI x1, vI x2, vI x3, vI x4, vI x5, vU] [] (stt (upd2 (upd2 (upd2 g 171 0 0) 178 0 x1) 178 1 x2)) K
    show AW Γ l mX12_feed d b 34 [vR 171, vI x1, vI x2, vI x3, vI x4, vI x5, vU] [] (stt (upd2 (upd2 (upd2 g 171 0 0) 178 0 x1) 178 1 x2)) K
    generalize eg1 : upd2 (upd2 (upd2 g 171 0 0) 178 0 x1) 178 1 x2 = g1
    replace hF := hF g1 eg1.symm
    refine aw_aload_n (k' := 0) (by decide +kernel) rfl ?_
    refine gfX12_36 rfl (by decide +kernel) (OB.at (ci := 10) (show shp 171 = (20, 0) by decide +kernel) (by decide)) ?_
    refine AW.topR (show RC 171 15 = 178 by decide +kernel) ?_
    refine aw_iconst (n := 2) (by decide +kernel) ?_
    refine aw_iload_n (k' := 3) (by decide +kernel) rfl ?_
    refine ax_iast (i := 2) (by decide +kernel) (isA_lit (show shp 178 = (0, 5) by decide +kernel) (by decide)) (by decide +kernel) ⟨by decide, by decide⟩ ?_
    show AW Γ l mX12_feed d b 41 [vR 171, vI x1, vI x2, vI x3, vI x4, vI x5, vU] [] (stt (upd2 g1 178 2 x3)) K
    refine aw_aload_n (k' := 0) (by decide +kernel) rfl ?_
    refine gfX12_36 rfl (by decide +kernel) (OB.at (ci := 10) (show shp 171 = (20, 0) by decide +kernel) (by decide)) ?_
    refine AW.topR (show RC 171 15 = 178 by decide +kernel) ?_
    refine aw_iconst (n := 3) (by decide +kernel) ?_
    refine aw_iload (i := 4) (by decide +kernel) rfl ?_
    refine ax_iast (i := 3) (by decide +kernel) (isA_lit (show shp 178 = (0, 5) by decide +kernel) (by decide)) (by decide +kernel) ⟨by decide, by decide⟩ ?_
    show AW Γ l mX12_feed d b 49 [vR 171, vI x1, vI x2, vI x3, vI x4, vI x5, vU] [] (stt (upd2 (upd2 g1 178 2 x3) 178 3 x4)) K
    refine aw_aload_n (k' := 0) (by decide +kernel) rfl ?_
    refine gfX12_36 rfl (by decide +kernel) (OB.at (ci := 10) (show shp 171 = (20, 0) by decide +kernel) (by decide)) ?_
    refine AW.topR (show RC 171 15 = 178 by decide +kernel) ?_
    refine aw_iconst (n := 4) (by decide +kernel) ?_
    refine aw_iload (i := 5) (by decide +kernel) rfl ?_
    refine ax_iast (i := 4) (by decide +kernel) (isA_lit (show shp 178 = (0, 5) by decide +kernel) (by decide)) (by decide +kernel) ⟨by decide, by decide⟩ ?_
    show AW Γ l mX12_feed d b 57 [vR 171, vI x1, vI x2, vI x3, vI x4, vI x5, vU] [] (stt (upd2 (upd2 (upd2 g1 178 2 x3) 178 3 x4) 178 4 x5)) K
    show AW Γ l mX12_feed d b 57 [vR 171, vI x1, vI x2, vI x3, vI x4, vI x5, vU] [] (stt (upd2 (upd2 (upd2 g1 178 2 x3) 178 3 x4) 178 4 x5)) K
    generalize eg2 : upd2 (upd2 (upd2 g1 178 2 x3) 178 3 x4) 178 4 x5 = g2
    replace hF := hF g2 eg2.symm
    refine aw_iconst (n := 0) (by decide +kernel) ?_
    refine aw_istore (i := 6) (by decide +kernel) (by decide) ?_
    show AW Γ l mX12_feed d b 60 [vR 171, vI x1, vI x2, vI x3, vI x4, vI x5, vI 0] [] (stt g2) K
    exact hF
  · have hF := hF.2 hc
    refine aw_iconst (n := -1) (by decide +kernel) ?_
    exact aw_iret (by decide +kernel) rfl hF
set_option maxHeartbeats 1000000 in
theorem wpX12_feed_60 {Γ : Cfg} {l : Launch} {d b : Nat} {g : GG} {K : Ou → HP → Prop} {x1 : Int} {x2 : Int} {x3 : Int} {x4 : Int} {x5 : Int} {y6 : Int} (hF : (20 ≤ wr y6 → K (.inl (vI ((upd2 g 171 9 ((g 171 9) + 20)) 171 9))) (stt (upd2 g 171 9 ((g 171 9) + 20)))) ∧ (¬ (20 ≤ wr y6) → (0 ≤ wr (iDiv y6 4) ∧ wr (iDiv y6 4) < 5) ∧ ((0 ≤ wr ((g 171 9) + y6) ∧ wr ((g 171 9) + y6) < 400) ∧ (∀ g1 : GG, g1 = upd2 g 177 (wr ((g 171 9) + y6)) (iB (iB (iShr (g 178 (wr (iDiv y6 4))) (24 - (8 * (iRem y6 4)))))) → AW Γ l mX12_feed d b 60 [vR 171, vI x1, vI x2, vI x3, vI x4, vI x5, vI (y6 + 1)] [] (stt g1) K)))) : AW Γ l mX12_feed d b 60 [vR 171, vI x1, vI x2, vI x3, vI x4, vI x5, vI y6] [] (stt g) K := by
  refine aw_iload (i := 6) (by decide +kernel) rfl ?_
  refine aw_bipush (n := 20) (by decide +kernel) (by decide +kernel) ?_
  refine ax_icmp_ge (off := 42) (tgt := 106) (x' := wr y6) (y' := 20) (by decide +kernel) (by decide) rfl (by decide +kernel) (fun hc => ?_) (fun hc => ?_)
  · have hF := hF.1 hc
    refine aw_aload_n (k' := 0) (by decide +kernel) rfl ?_
    refine aw_dup (by decide +kernel) trivial ?_
    refine gfX12_96 rfl (by decide +kernel) (OB.at (ci := 10) (show shp 171 = (20, 0) by decide +kernel) (by decide)) ?_
    refine aw_bipush (n := 20) (by decide +kernel) (by decide +kernel) ?_
    refine aw_iadd (by decide +kernel) ?_
    refine pfX12_96 rfl (by decide +kernel) (OB.at (ci := 10) (show shp 171 = (20, 0) by decide +kernel) (by decide)) ?_
    show AW Γ l mX12_feed d b 117 [vR 171, vI x1, vI x2, vI x3, vI x4, vI x5, vI y6] [] (stt (upd2 g 171 9 ((g 171 9) + 20))) K
    refine aw_aload_n (k' := 0) (by decide +kernel) rfl ?_
    refine gfX12_96 rfl (by decide +kernel) (OB.at (ci := 10) (show shp 171 = (20, 0) by decide +kernel) (by decide)) ?_
    exact aw_iret (by decide +kernel) rfl hF
  · have hF := hF.2 hc
    refine aw_aload_n (k' := 0) (by decide +kernel) rfl ?_
    refine gfX12_29 rfl (by decide +kernel) (OB.at (ci := 10) (show shp 171 = (20, 0) by decide +kernel) (by decide)) ?_
    refine AW.topR (show RC 171 8 = 177 by decide +kernel) ?_
    refine aw_aload_n (k' := 0) (by decide +kernel) rfl ?_
    refine gfX12_96 rfl (by decide +kernel) (OB.at (ci := 10) (show shp 171 = (20, 0) by decide +kernel) (by decide)) ?_
    refine aw_iload (i := 6) (by decide +kernel) rfl ?_
    refine aw_iadd (by decide +kernel) ?_
    refine aw_aload_n (k' := 0) (by decide +kernel) rfl ?_
    refine gfX12_36 rfl (by decide +kernel) (OB.at (ci := 10) (show shp 171 = (20, 0) by decide +kernel) (by decide)) ?_
    refine AW.topR (show RC 171 15 = 178 by decide +kernel) ?_
    refine aw_iload (i := 6) (by decide +kernel) rfl ?_
    refine aw_iconst (n := 4) (by decide +kernel) ?_
    refine aw_idiv (by decide +kernel) (by decide +kernel) ?_
    refine ax_iald (i := wr (iDiv y6 4)) (by decide +kernel) (isA_lit (show shp 178 = (0, 5) by decide +kernel) (by decide)) rfl hF.1 ?_
    replace hF := hF.2
    refine aw_bipush (n := 24) (by decide +kernel) (by decide +kernel) ?_
    refine aw_bipush (n := 8) (by decide +kernel) (by decide +kernel) ?_
    refine aw_iload (i := 6) (by decide +kernel) rfl ?_
    refine aw_iconst (n := 4) (by decide +kernel) ?_
    refine aw_irem (by decide +kernel) (by decide +kernel) ?_
    refine aw_imul (by decide +kernel) ?_
    refine aw_isub (by decide +kernel) ?_
    refine aw_ishr (by decide +kernel) ?_
    refine aw_i2b (by decide +kernel) ?_
    refine ax_bast (i := wr ((g 171 9) + y6)) (by decide +kernel) (isA_lit (show shp 177 = (1, 400) by decide +kernel) (by decide)) rfl hF.1 ?_
    show AW Γ l mX12_feed d b 100 [vR 171, vI x1, vI x2, vI x3, vI x4, vI x5, vI y6] [] (stt (upd2 g 177 (wr ((g 171 9) + y6)) (iB (iB (iShr (g 178 (wr (iDiv y6 4))) (24 - (8 * (iRem y6 4)))))))) K
    replace hF := hF.2
    show AW Γ l mX12_feed d b 100 [vR 171, vI x1, vI x2, vI x3, vI x4, vI x5, vI y6] [] (stt (upd2 g 177 (wr ((g 171 9) + y6)) (iB (iB (iShr (g 178 (wr (iDiv y6 4))) (24 - (8 * (iRem y6 4)))))))) K
    generalize eg1 : upd2 g 177 (wr ((g 171 9) + y6)) (iB (iB (iShr (g 178 (wr (iDiv y6 4))) (24 - (8 * (iRem y6 4)))))) = g1
    replace hF := hF g1 eg1.symm
    refine aw_iinc (i := 6) (n := 1) (by decide +kernel) rfl (by decide) ?_
    show AW Γ l mX12_feed d b 103 [vR 171, vI x1, vI x2, vI x3, vI x4, vI x5, vI (y6 + 1)] [] (stt g1) K
    refine aw_goto (off := -43) (tgt := 60) (by decide +kernel) (by decide) ?_
    exact hF

set_option maxHeartbeats 1000000 in
theorem wpX12_end {Γ : Cfg} {l : Launch} {d b : Nat} {g : GG} {K : Ou → HP → Prop} {x1 : Int} (hF : (wr x1 < 0 → K (.inl (vI 0)) (stt (upd2 g 171 0 0))) ∧ (¬ (wr x1 < 0) → (wr x1 ≤ wr ((upd2 g 171 0 0) 171 9) → K (.inl (vI 1)) (stt (upd2 (upd2 g 171 0 0) 171 9 x1))) ∧ (¬ (wr x1 ≤ wr ((upd2 g 171 0 0) 171 9)) → K (.inl (vI 0)) (stt (upd2 g 171 0 0))))) : Ct Γ l d b yX12_end mX12_end [vR 171, vI x1] (stt g) K := by
  refine Ct.enter (L := [vR 171, vI x1]) rfl rfl rfl (by decide +kernel) (by simp [oneSlot]) (Nat.le_of_ble_eq_true rfl) rfl ?_
  refine aw_aload_n (k' := 0) (by decide +kernel) rfl ?_
  refine aw_iconst (n := 0) (by decide +kernel) ?_
  refine pfX12_3 rfl (by decide +kernel) (OB.at (ci := 10) (show shp 171 = (20, 0) by decide +kernel) (by decide)) ?_
  show AW Γ l mX12_end d b 5 [vR 171, vI x1] [] (stt (upd2 g 171 0 0)) K
  refine aw_iload_n (k' := 1) (by decide +kernel) rfl ?_
  refine ax_if_lt (off := 11) (tgt := 17) (x' := wr x1) (by decide +kernel) (by decide) rfl (fun hc => ?_) (fun hc => ?_)
  · have hF := hF.1 hc
    refine aw_iconst (n := 0) (by decide +kernel) ?_
    exact aw_zret (by decide +kernel) rfl rfl hF
  · have hF := hF.2 hc
    refine aw_iload_n (k' := 1) (by decide +kernel) rfl ?_
    refine aw_aload_n (k' := 0) (by decide +kernel) rfl ?_
    refine gfX12_96 rfl (by decide +kernel) (OB.at (ci := 10) (show shp 171 = (20, 0) by decide +kernel) (by decide)) ?_
    refine ax_icmp_le (off := 5) (tgt := 19) (x' := wr x1) (y' := wr ((upd2 g 171 0 0) 171 9)) (by decide +kernel) (by decide) rfl rfl (fun hc => ?_) (fun hc => ?_)
    · have hF := hF.1 hc
      refine aw_aload_n (k' := 0) (by decide +kernel) rfl ?_
      refine aw_iload_n (k' := 1) (by decide +kernel) rfl ?_
      refine pfX12_96 rfl (by decide +kernel) (OB.at (ci := 10) (show shp 171 = (20, 0) by decide +kernel) (by decide)) ?_
      show AW Γ l mX12_end d b 24 [vR 171, vI x1] [] (stt (upd2 (upd2 g 171 0 0) 171 9 x1)) K
      refine aw_iconst (n := 1) (by decide +kernel) ?_
      exact aw_zret (by decide +kernel) rfl rfl hF
    · have hF := hF.2 hc
      refine aw_iconst (n := 0) (by decide +kernel) ?_
      exact aw_zret (by decide +kernel) rfl rfl hF

set_option maxHeartbeats 1000000 in
theorem wpX12_isAt {Γ : Cfg} {l : Launch} {d b : Nat} {g : GG} {K : Ou → HP → Prop} {x1 : Int} {x2 : Int} (hF : (wr (g 171 11) ≤ wr (g 171 10) → K (.inl (vI 0)) (stt g)) ∧ (¬ (wr (g 171 11) ≤ wr (g 171 10)) → (0 ≤ wr (g 171 10) ∧ wr (g 171 10) < 400) ∧ ((wr (g 177 (wr (g 171 10))) < wr x1 → K (.inl (vI 0)) (stt g)) ∧ (¬ (wr (g 177 (wr (g 171 10))) < wr x1) → (0 ≤ wr (g 171 10) ∧ wr (g 171 10) < 400) ∧ ((wr x2 < wr (g 177 (wr (g 171 10))) → K (.inl (vI 0)) (stt g)) ∧ (¬ (wr x2 < wr (g 177 (wr (g 171 10)))) → K (.inl (vI 1)) (stt g))))))) : Ct Γ l d b yX12_isAt mX12_isAt [vR 171, vI x1, vI x2] (stt g) K := by
  refine Ct.enter (L := [vR 171, vI x1, vI x2]) rfl rfl rfl (by decide +kernel) (by simp [oneSlot]) (Nat.le_of_ble_eq_true rfl) rfl ?_
  refine aw_aload_n (k' := 0) (by decide +kernel) rfl ?_
  refine gfX12_99 rfl (by decide +kernel) (OB.at (ci := 10) (show shp 171 = (20, 0) by decide +kernel) (by decide)) ?_
  refine aw_aload_n (k' := 0) (by decide +kernel) rfl ?_
  refine gfX12_102 rfl (by decide +kernel) (OB.at (ci := 10) (show shp 171 = (20, 0) by decide +kernel) (by decide)) ?_
  refine ax_icmp_ge (off := 33) (tgt := 41) (x' := wr (g 171 10)) (y' := wr (g 171 11)) (by decide +kernel) (by decide) rfl rfl (fun hc => ?_) (fun hc => ?_)
  · have hF := hF.1 hc
    refine aw_iconst (n := 0) (by decide +kernel) ?_
    exact aw_zret (by decide +kernel) rfl rfl hF
  · have hF := hF.2 hc
    refine aw_aload_n (k' := 0) (by decide +kernel) rfl ?_
    refine gfX12_29 rfl (by decide +kernel) (OB.at (ci := 10) (show shp 171 = (20, 0) by decide +kernel) (by decide)) ?_
    refine AW.topR (show RC 171 8 = 177 by decide +kernel) ?_
    refine aw_aload_n (k' := 0) (by decide +kernel) rfl ?_
    refine gfX12_99 rfl (by decide +kernel) (OB.at (ci := 10) (show shp 171 = (20, 0) by decide +kernel) (by decide)) ?_
    refine ax_bald (i := wr (g 171 10)) (by decide +kernel) (isA_lit (show shp 177 = (1, 400) by decide +kernel) (by decide)) rfl hF.1 ?_
    replace hF := hF.2
    refine aw_iload_n (k' := 1) (by decide +kernel) rfl ?_
    refine ax_icmp_lt (off := 20) (tgt := 41) (x' := wr (g 177 (wr (g 171 10)))) (y' := wr x1) (by decide +kernel) (by decide) rfl rfl (fun hc => ?_) (fun hc => ?_)
    · have hF := hF.1 hc
      refine aw_iconst (n := 0) (by decide +kernel) ?_
      exact aw_zret (by decide +kernel) rfl rfl hF
    · have hF := hF.2 hc
      refine aw_aload_n (k' := 0) (by decide +kernel) rfl ?_
      refine gfX12_29 rfl (by decide +kernel) (OB.at (ci := 10) (show shp 171 = (20, 0) by decide +kernel) (by decide)) ?_
      refine AW.topR (show RC 171 8 = 177 by decide +kernel) ?_
      refine aw_aload_n (k' := 0) (by decide +kernel) rfl ?_
      refine gfX12_99 rfl (by decide +kernel) (OB.at (ci := 10) (show shp 171 = (20, 0) by decide +kernel) (by decide)) ?_
      refine ax_bald (i := wr (g 171 10)) (by decide +kernel) (isA_lit (show shp 177 = (1, 400) by decide +kernel) (by decide)) rfl hF.1 ?_
      replace hF := hF.2
      refine aw_iload_n (k' := 2) (by decide +kernel) rfl ?_
      refine ax_icmp_gt (off := 7) (tgt := 41) (x' := wr (g 177 (wr (g 171 10)))) (y' := wr x2) (by decide +kernel) (by decide) rfl rfl (fun hc => ?_) (fun hc => ?_)
      · have hF := hF.1 hc
        refine aw_iconst (n := 0) (by decide +kernel) ?_
        exact aw_zret (by decide +kernel) rfl rfl hF
      · have hF := hF.2 hc
        refine aw_iconst (n := 1) (by decide +kernel) ?_
        refine aw_goto (off := 4) (tgt := 42) (by decide +kernel) (by decide) ?_
        exact aw_zret (by decide +kernel) rfl rfl hF

set_option maxHeartbeats 1000000 in
theorem wpX12_blanks {Γ : Cfg} {l : Launch} {d b : Nat} {g : GG} {K : Ou → HP → Prop}  (hF : AW Γ l mX12_blanks (d + 1) b 0 [vR 171] [] (stt g) K) : Ct Γ l (d + 1) b yX12_blanks mX12_blanks [vR 171] (stt g) K := by
  refine Ct.enter (L := [vR 171]) rfl rfl rfl (by decide +kernel) (by simp [oneSlot]) (Nat.le_of_ble_eq_true rfl) rfl ?_
  exact hF

set_option maxHeartbeats 1000000 in
theorem wpX12_letters {Γ : Cfg} {l : Launch} {d b : Nat} {g : GG} {K : Ou → HP → Prop}  (hF : Ct Γ l d 0 yX12_blanks mX12_blanks [vR 171] (stt g) (bV (fun g1 => AW Γ l mX12_letters (d + 1) b 4 [vR 171] [] (stt g1) K) K)) : Ct Γ l (d + 1) b yX12_letters mX12_letters [vR 171] (stt g) K := by
  refine Ct.enter (L := [vR 171]) rfl rfl rfl (by decide +kernel) (by simp [oneSlot]) (Nat.le_of_ble_eq_true rfl) rfl ?_
  refine aw_aload_n (k' := 0) (by decide +kernel) rfl ?_
  refine aw_callV (y := yX12_blanks) (M2 := mX12_blanks) (as := []) (S := []) (t := 171) (d2 := d) (b2 := 0) (b3 := b) cwX12_blanks mlX12_112 imX12_blanks seX12_blanks (by decide +kernel) rfl (ci := 10) rfl (OB.at (ci := 10) (show shp 171 = (20, 0) by decide +kernel) (by decide)) (Nat.le_refl _) (Nat.le_of_eq (Nat.zero_add _)) rfl rfl (by simp [oneSlot]) (Nat.le_of_ble_eq_true rfl) (Ct.mono hF ?_)
  rintro o h' (⟨g1, rfl, rfl, hG⟩ | ⟨E, g, rfl, rfl, hG⟩)
  · show AW Γ l mX12_letters (d + 1) b 4 [vR 171] [] (stt g1) K
    exact hG
  · exact hG
set_option maxHeartbeats 1000000 in
theorem wpX12_letters_4 {Γ : Cfg} {l : Launch} {d b : Nat} {g : GG} {K : Ou → HP → Prop}  (hF : Ct Γ l d 0 yX12_isAt mX12_isAt [vR 171, vI 97, vI 122] (stt g) (bI (fun v1 g1 => (wr v1 = 0 → K (.inl vU) (stt g1)) ∧ (¬ (wr v1 = 0) → AW Γ l mX12_letters (d + 1) b 4 [vR 171] [] (stt (upd2 g1 171 10 ((g1 171 10) + 1))) K)) K)) : AW Γ l mX12_letters (d + 1) b 4 [vR 171] [] (stt g) K := by
  refine aw_aload_n (k' := 0) (by decide +kernel) rfl ?_
  refine aw_bipush (n := 97) (by decide +kernel) (by decide +kernel) ?_
  refine aw_bipush (n := 122) (by decide +kernel) (by decide +kernel) ?_
  refine aw_callV (y := yX12_isAt) (M2 := mX12_isAt) (as := [vI 97, vI 122]) (S := []) (t := 171) (d2 := d) (b2 := 0) (b3 := b) cwX12_isAt mlX12_105 imX12_isAt seX12_isAt (by decide +kernel) rfl (ci := 10) rfl (OB.at (ci := 10) (show shp 171 = (20, 0) by decide +kernel) (by decide)) (Nat.le_refl _) (Nat.le_of_eq (Nat.zero_add _)) rfl rfl (by simp [oneSlot]) (Nat.le_of_ble_eq_true rfl) (Ct.mono hF ?_)
  rintro o h' (⟨v1, g1, rfl, rfl, hG⟩ | ⟨E, g, rfl, rfl, hG⟩)
  · show AW Γ l mX12_letters (d + 1) b 12 [vR 171] [vI v1] (stt g1) K
    refine ax_if_eq (off := 16) (tgt := 28) (x' := wr v1) (by decide +kernel) (by decide) rfl (fun hc => ?_) (fun hc => ?_)
    · have hG := hG.1 hc
      exact aw_vret (by decide +kernel) rfl hG
    · have hG := hG.2 hc
      refine aw_aload_n (k' := 0) (by decide +kernel) rfl ?_
      refine aw_dup (by decide +kernel) trivial ?_
      refine gfX12_99 rfl (by decide +kernel) (OB.at (ci := 10) (show shp 171 = (20, 0) by decide +kernel) (by decide)) ?_
      refine aw_iconst (n := 1) (by decide +kernel) ?_
      refine aw_iadd (by decide +kernel) ?_
      refine pfX12_99 rfl (by decide +kernel) (OB.at (ci := 10) (show shp 171 = (20, 0) by decide +kernel) (by decide)) ?_
      show AW Γ l mX12_letters (d + 1) b 25 [vR 171] [] (stt (upd2 g1 171 10 ((g1 171 10) + 1))) K
      refine aw_goto (off := -21) (tgt := 4) (by decide +kernel) (by decide) ?_
      exact hG
  · exact hG

set_option maxHeartbeats 1000000 in
theorem wpX12_isWord {Γ : Cfg} {l : Launch} {d b : Nat} {g : GG} {K : Ou → HP → Prop} {t1 : Int} (ht1 : SS t1) (hF : (¬ wr ((g 171 10) - (g 171 12)) = wr (ssL t1) → AW Γ l mX12_isWord (d + 4) b 24 [vR 171, vR t1, vI 0, vI 0] [] (stt g) K) ∧ (¬ (¬ wr ((g 171 10) - (g 171 12)) = wr (ssL t1)) → AW Γ l mX12_isWord (d + 4) b 24 [vR 171, vR t1, vI 1, vI 0] [] (stt g) K)) : Ct Γ l (d + 4) b yX12_isWord mX12_isWord [vR 171, vR t1] (stt g) K := by
  refine Ct.enter (L := [vR 171, vR t1, vU, vU]) rfl rfl rfl (by decide +kernel) (by simp [oneSlot]) (Nat.le_of_ble_eq_true rfl) rfl ?_
  refine aw_aload_n (k' := 0) (by decide +kernel) rfl ?_
  refine gfX12_99 rfl (by decide +kernel) (OB.at (ci := 10) (show shp 171 = (20, 0) by decide +kernel) (by decide)) ?_
  refine aw_aload_n (k' := 0) (by decide +kernel) rfl ?_
  refine gfX12_109 rfl (by decide +kernel) (OB.at (ci := 10) (show shp 171 = (20, 0) by decide +kernel) (by decide)) ?_
  refine aw_isub (by decide +kernel) ?_
  refine aw_aload_n (k' := 1) (by decide +kernel) rfl ?_
  refine aw_callO (y := yJ0_length_8abf5) (M2 := mJ0_length_8abf5) (as := []) (S := [vI ((g 171 10) - (g 171 12))]) (r := t1) (d2 := (d + 3)) (b2 := 0) (b3 := b) cwJ0_length_8abf5 mlX12_115 imJ0_length_8abf5 seJ0_length_8abf5 (by decide +kernel) rfl (by have := (ht1).1; omega) (fun hS => recSS ht1 hS) (Nat.le_refl _) (Nat.le_of_eq (Nat.zero_add _)) rfl rfl (by simp [oneSlot]) (Nat.le_of_ble_eq_true rfl) (c_len ht1 ?_)
  show AW Γ l mX12_isWord (d + 4) b 13 [vR 171, vR t1, vU, vU] [vI (ssL t1), vI ((g 171 10) - (g 171 12))] (stt g) K
  refine ax_icmp_ne (off := 7) (tgt := 20) (x' := wr ((g 171 10) - (g 171 12))) (y' := wr (ssL t1)) (by decide +kernel) (by decide) rfl rfl (fun hc => ?_) (fun hc => ?_)
  · have hF := hF.1 hc
    refine aw_iconst (n := 0) (by decide +kernel) ?_
    refine aw_istore_n (k' := 2) (by decide +kernel) (by decide) ?_
    show AW Γ l mX12_isWord (d + 4) b 22 [vR 171, vR t1, vI 0, vU] [] (stt g) K
    refine aw_iconst (n := 0) (by decide +kernel) ?_
    refine aw_istore_n (k' := 3) (by decide +kernel) (by decide) ?_
    show AW Γ l mX12_isWord (d + 4) b 24 [vR 171, vR t1, vI 0, vI 0] [] (stt g) K
    exact hF
  · have hF := hF.2 hc
    refine aw_iconst (n := 1) (by decide +kernel) ?_
    refine aw_goto (off := 4) (tgt := 21) (by decide +kernel) (by decide) ?_
    refine aw_istore_n (k' := 2) (by decide +kernel) (by decide) ?_
    show AW Γ l mX12_isWord (d + 4) b 22 [vR 171, vR t1, vI 1, vU] [] (stt g) K
    refine aw_iconst (n := 0) (by decide +kernel) ?_
    refine aw_istore_n (k' := 3) (by decide +kernel) (by decide) ?_
    show AW Γ l mX12_isWord (d + 4) b 24 [vR 171, vR t1, vI 1, vI 0] [] (stt g) K
    exact hF
set_option maxHeartbeats 1000000 in
theorem wpX12_isWord_24 {Γ : Cfg} {l : Launch} {d b : Nat} {g : GG} {K : Ou → HP → Prop} {t1 : Int} (ht1 : SS t1) {y2 : Int} {y3 : Int} (hF : (wr y2 = 0 → (wr y2 = 0 ∨ wr y2 = 1) ∧ K (.inl (vI y2)) (stt g)) ∧ (¬ (wr y2 = 0) → (wr (ssL t1) ≤ wr y3 → (wr y2 = 0 ∨ wr y2 = 1) ∧ K (.inl (vI y2)) (stt g)) ∧ (¬ (wr (ssL t1) ≤ wr y3) → (0 ≤ wr ((g 171 12) + y3) ∧ wr ((g 171 12) + y3) < 400) ∧ ((0 ≤ wr y3 ∧ wr y3 < ssL t1) ∧ ((¬ wr (g 177 (wr ((g 171 12) + y3))) = wr ((ssB t1).getD (wr y3).toNat 0) → AW Γ l mX12_isWord (d + 4) b 24 [vR 171, vR t1, vI 0, vI (y3 + 1)] [] (stt g) K) ∧ (¬ (¬ wr (g 177 (wr ((g 171 12) + y3))) = wr ((ssB t1).getD (wr y3).toNat 0)) → AW Γ l mX12_isWord (d + 4) b 24 [vR 171, vR t1, vI 1, vI (y3 + 1)] [] (stt g) K)))))) : AW Γ l mX12_isWord (d + 4) b 24 [vR 171, vR t1, vI y2, vI y3] [] (stt g) K := by
  refine aw_iload_n (k' := 2) (by decide +kernel) rfl ?_
  refine ax_if_eq (off := 42) (tgt := 67) (x' := wr y2) (by decide +kernel) (by decide) rfl (fun hc => ?_) (fun hc => ?_)
  · have hF := hF.1 hc
    refine aw_iload_n (k' := 2) (by decide +kernel) rfl ?_
    exact aw_zret (by decide +kernel) rfl (nar_z hF.1) hF.2
  · have hF := hF.2 hc
    refine aw_iload_n (k' := 3) (by decide +kernel) rfl ?_
    refine aw_aload_n (k' := 1) (by decide +kernel) rfl ?_
    refine aw_callO (y := yJ0_length_8abf5) (M2 := mJ0_length_8abf5) (as := []) (S := [vI y3]) (r := t1) (d2 := (d + 3)) (b2 := 0) (b3 := b) cwJ0_length_8abf5 mlX12_115 imJ0_length_8abf5 seJ0_length_8abf5 (by decide +kernel) rfl (by have := (ht1).1; omega) (fun hS => recSS ht1 hS) (Nat.le_refl _) (Nat.le_of_eq (Nat.zero_add _)) rfl rfl (by simp [oneSlot]) (Nat.le_of_ble_eq_true rfl) (c_len ht1 ?_)
    show AW Γ l mX12_isWord (d + 4) b 33 [vR 171, vR t1, vI y2, vI y3] [vI (ssL t1), vI y3] (stt g) K
    refine ax_icmp_ge (off := 34) (tgt := 67) (x' := wr y3) (y' := wr (ssL t1)) (by decide +kernel) (by decide) rfl rfl (fun hc => ?_) (fun hc => ?_)
    · have hF := hF.1 hc
      refine aw_iload_n (k' := 2) (by decide +kernel) rfl ?_
      exact aw_zret (by decide +kernel) rfl (nar_z hF.1) hF.2
    · have hF := hF.2 hc
      refine aw_aload_n (k' := 0) (by decide +kernel) rfl ?_
      refine gfX12_29 rfl (by decide +kernel) (OB.at (ci := 10) (show shp 171 = (20, 0) by decide +kernel) (by decide)) ?_
      refine AW.topR (show RC 171 8 = 177 by decide +kernel) ?_
      refine aw_aload_n (k' := 0) (by decide +kernel) rfl ?_
      refine gfX12_109 rfl (by decide +kernel) (OB.at (ci := 10) (show shp 171 = (20, 0) by decide +kernel) (by decide)) ?_
      refine aw_iload_n (k' := 3) (by decide +kernel) rfl ?_
      refine aw_iadd (by decide +kernel) ?_
      refine ax_bald (i := wr ((g 171 12) + y3)) (by decide +kernel) (isA_lit (show shp 177 = (1, 400) by decide +kernel) (by decide)) rfl hF.1 ?_
      replace hF := hF.2
      refine aw_aload_n (k' := 1) (by decide +kernel) rfl ?_
      refine aw_iload_n (k' := 3) (by decide +kernel) rfl ?_
      refine aw_callO (y := yJ0_charAt_5068e) (M2 := mJ0_charAt_5068e) (as := [vI y3]) (S := [vI (g 177 (wr ((g 171 12) + y3)))]) (r := t1) (d2 := (d + 3)) (b2 := 0) (b3 := b) cwJ0_charAt_5068e mlX12_120 imJ0_charAt_5068e seJ0_charAt_5068e (by decide +kernel) rfl (by have := (ht1).1; omega) (fun hS => recSS ht1 hS) (Nat.le_refl _) (Nat.le_of_eq (Nat.zero_add _)) rfl rfl (by simp [oneSlot]) (Nat.le_of_ble_eq_true rfl) (c_charAt2 ht1 hF.1 ?_)
      show AW Γ l mX12_isWord (d + 4) b 52 [vR 171, vR t1, vI y2, vI y3] [vI ((ssB t1).getD (wr y3).toNat 0), vI (g 177 (wr ((g 171 12) + y3)))] (stt g) K
      replace hF := hF.2
      refine ax_icmp_ne (off := 7) (tgt := 59) (x' := wr (g 177 (wr ((g 171 12) + y3)))) (y' := wr ((ssB t1).getD (wr y3).toNat 0)) (by decide +kernel) (by decide) rfl rfl (fun hc => ?_) (fun hc => ?_)
      · have hF := hF.1 hc
        refine aw_iconst (n := 0) (by decide +kernel) ?_
        refine aw_istore_n (k' := 2) (by decide +kernel) (by decide) ?_
        show AW Γ l mX12_isWord (d + 4) b 61 [vR 171, vR t1, vI 0, vI y3] [] (stt g) K
        refine aw_iinc (i := 3) (n := 1) (by decide +kernel) rfl (by decide) ?_
        show AW Γ l mX12_isWord (d + 4) b 64 [vR 171, vR t1, vI 0, vI (y3 + 1)] [] (stt g) K
        refine aw_goto (off := -40) (tgt := 24) (by decide +kernel) (by decide) ?_
        exact hF
      · have hF := hF.2 hc
        refine aw_iconst (n := 1) (by decide +kernel) ?_
        refine aw_goto (off := 4) (tgt := 60) (by decide +kernel) (by decide) ?_
        refine aw_istore_n (k' := 2) (by decide +kernel) (by decide) ?_
        show AW Γ l mX12_isWord (d + 4) b 61 [vR 171, vR t1, vI 1, vI y3] [] (stt g) K
        refine aw_iinc (i := 3) (n := 1) (by decide +kernel) rfl (by decide) ?_
        show AW Γ l mX12_isWord (d + 4) b 64 [vR 171, vR t1, vI 1, vI (y3 + 1)] [] (stt g) K
        refine aw_goto (off := -40) (tgt := 24) (by decide +kernel) (by decide) ?_
        exact hF

set_option maxHeartbeats 1000000 in
theorem wpX12_passes {Γ : Cfg} {l : Launch} {d b : Nat} {g : GG} {K : Ou → HP → Prop} {t1 : Int} (ht1 : SS t1) (hF : Ct Γ l d 0 yX12_letters mX12_letters [vR 171] (stt g) (bV (fun g1 => Ct Γ l d 0 yX12_isWord mX12_isWord [vR 171, vR t1] (stt g1) (bI (fun v1 g2 => (wr v1 = 0 → K (.inl (vI 0)) (stt (upd2 g2 171 10 (g2 171 12)))) ∧ (¬ (wr v1 = 0) → K (.inl (vI 1)) (stt g2))) K)) K)) : Ct Γ l (d + 1) b yX12_passes mX12_passes [vR 171, vR t1] (stt g) K := by
  refine Ct.enter (L := [vR 171, vR t1]) rfl rfl rfl (by decide +kernel) (by simp [oneSlot]) (Nat.le_of_ble_eq_true rfl) rfl ?_
  refine aw_aload_n (k' := 0) (by decide +kernel) rfl ?_
  refine aw_callV (y := yX12_letters) (M2 := mX12_letters) (as := []) (S := []) (t := 171) (d2 := d) (b2 := 0) (b3 := b) cwX12_letters mlX12_124 imX12_letters seX12_letters (by decide +kernel) rfl (ci := 10) rfl (OB.at (ci := 10) (show shp 171 = (20, 0) by decide +kernel) (by decide)) (Nat.le_refl _) (Nat.le_of_eq (Nat.zero_add _)) rfl rfl (by simp [oneSlot]) (Nat.le_of_ble_eq_true rfl) (Ct.mono hF ?_)
  rintro o h' (⟨g1, rfl, rfl, hG⟩ | ⟨E, g, rfl, rfl, hG⟩)
  · show AW Γ l mX12_passes (d + 1) b 4 [vR 171, vR t1] [] (stt g1) K
    refine aw_aload_n (k' := 0) (by decide +kernel) rfl ?_
    refine aw_aload_n (k' := 1) (by decide +kernel) rfl ?_
    refine aw_callV (y := yX12_isWord) (M2 := mX12_isWord) (as := [vR t1]) (S := []) (t := 171) (d2 := d) (b2 := 0) (b3 := b) cwX12_isWord mlX12_127 imX12_isWord seX12_isWord (by decide +kernel) rfl (ci := 10) rfl (OB.at (ci := 10) (show shp 171 = (20, 0) by decide +kernel) (by decide)) (Nat.le_refl _) (Nat.le_of_eq (Nat.zero_add _)) rfl rfl (by simp [oneSlot]) (Nat.le_of_ble_eq_true rfl) (Ct.mono hG ?_)
    rintro o h' (⟨v1, g2, rfl, rfl, hG⟩ | ⟨E, g, rfl, rfl, hG⟩)
    · show AW Γ l mX12_passes (d + 1) b 9 [vR 171, vR t1] [vI v1] (stt g2) K
      refine ax_if_eq (off := 5) (tgt := 14) (x' := wr v1) (by decide +kernel) (by decide) rfl (fun hc => ?_) (fun hc => ?_)
      · have hG := hG.1 hc
        refine aw_aload_n (k' := 0) (by decide +kernel) rfl ?_
        refine aw_aload_n (k' := 0) (by decide +kernel) rfl ?_
        refine gfX12_109 rfl (by decide +kernel) (OB.at (ci := 10) (show shp 171 = (20, 0) by decide +kernel) (by decide)) ?_
        refine pfX12_99 rfl (by decide +kernel) (OB.at (ci := 10) (show shp 171 = (20, 0) by decide +kernel) (by decide)) ?_
        show AW Γ l mX12_passes (d + 1) b 22 [vR 171, vR t1] [] (stt (upd2 g2 171 10 (g2 171 12))) K
        refine aw_iconst (n := 0) (by decide +kernel) ?_
        exact aw_zret (by decide +kernel) rfl rfl hG
      · have hG := hG.2 hc
        refine aw_iconst (n := 1) (by decide +kernel) ?_
        exact aw_zret (by decide +kernel) rfl rfl hG
    · exact hG
  · exact hG

set_option maxHeartbeats 1000000 in
theorem wpX12_sign {Γ : Cfg} {l : Launch} {d b : Nat} {g : GG} {K : Ou → HP → Prop} {x1 : Int} (hF : Ct Γ l d 0 yX12_blanks mX12_blanks [vR 171] (stt g) (bV (fun g1 => Ct Γ l d 0 yX12_isAt mX12_isAt [vR 171, vI x1, vI x1] (stt g1) (bI (fun v1 g2 => (¬ wr v1 = 0 → K (.inl (vI 1)) (stt (upd2 g2 171 10 ((g2 171 10) + 1)))) ∧ (¬ (¬ wr v1 = 0) → K (.inl (vI 0)) (stt g2))) K)) K)) : Ct Γ l (d + 1) b yX12_sign mX12_sign [vR 171, vI x1] (stt g) K := by
  refine Ct.enter (L := [vR 171, vI x1]) rfl rfl rfl (by decide +kernel) (by simp [oneSlot]) (Nat.le_of_ble_eq_true rfl) rfl ?_
  refine aw_aload_n (k' := 0) (by decide +kernel) rfl ?_
  refine aw_callV (y := yX12_blanks) (M2 := mX12_blanks) (as := []) (S := []) (t := 171) (d2 := d) (b2 := 0) (b3 := b) cwX12_blanks mlX12_112 imX12_blanks seX12_blanks (by decide +kernel) rfl (ci := 10) rfl (OB.at (ci := 10) (show shp 171 = (20, 0) by decide +kernel) (by decide)) (Nat.le_refl _) (Nat.le_of_eq (Nat.zero_add _)) rfl rfl (by simp [oneSlot]) (Nat.le_of_ble_eq_true rfl) (Ct.mono hF ?_)
  rintro o h' (⟨g1, rfl, rfl, hG⟩ | ⟨E, g, rfl, rfl, hG⟩)
  · show AW Γ l mX12_sign (d + 1) b 4 [vR 171, vI x1] [] (stt g1) K
    refine aw_aload_n (k' := 0) (by decide +kernel) rfl ?_
    refine aw_iload_n (k' := 1) (by decide +kernel) rfl ?_
    refine aw_iload_n (k' := 1) (by decide +kernel) rfl ?_
    refine aw_callV (y := yX12_isAt) (M2 := mX12_isAt) (as := [vI x1, vI x1]) (S := []) (t := 171) (d2 := d) (b2 := 0) (b3 := b) cwX12_isAt mlX12_105 imX12_isAt seX12_isAt (by decide +kernel) rfl (ci := 10) rfl (OB.at (ci := 10) (show shp 171 = (20, 0) by decide +kernel) (by decide)) (Nat.le_refl _) (Nat.le_of_eq (Nat.zero_add _)) rfl rfl (by simp [oneSlot]) (Nat.le_of_ble_eq_true rfl) (Ct.mono hG ?_)
    rintro o h' (⟨v1, g2, rfl, rfl, hG⟩ | ⟨E, g, rfl, rfl, hG⟩)
    · show AW Γ l mX12_sign (d + 1) b 10 [vR 171, vI x1] [vI v1] (stt g2) K
      refine ax_if_ne (off := 5) (tgt := 15) (x' := wr v1) (by decide +kernel) (by decide) rfl (fun hc => ?_) (fun hc => ?_)
      · have hG := hG.1 hc
        refine aw_aload_n (k' := 0) (by decide +kernel) rfl ?_
        refine aw_dup (by decide +kernel) trivial ?_
        refine gfX12_99 rfl (by decide +kernel) (OB.at (ci := 10) (show shp 171 = (20, 0) by decide +kernel) (by decide)) ?_
        refine aw_iconst (n := 1) (by decide +kernel) ?_
        refine aw_iadd (by decide +kernel) ?_
        refine pfX12_99 rfl (by decide +kernel) (OB.at (ci := 10) (show shp 171 = (20, 0) by decide +kernel) (by decide)) ?_
        show AW Γ l mX12_sign (d + 1) b 25 [vR 171, vI x1] [] (stt (upd2 g2 171 10 ((g2 171 10) + 1))) K
        refine aw_iconst (n := 1) (by decide +kernel) ?_
        exact aw_zret (by decide +kernel) rfl rfl hG
      · have hG := hG.2 hc
        refine aw_iconst (n := 0) (by decide +kernel) ?_
        exact aw_zret (by decide +kernel) rfl rfl hG
    · exact hG
  · exact hG

set_option maxHeartbeats 1000000 in
theorem wpX12_number {Γ : Cfg} {l : Launch} {d b : Nat} {g : GG} {K : Ou → HP → Prop} {x1 : Int} {x2 : Int} (hF : Ct Γ l d 0 yX12_blanks mX12_blanks [vR 171] (stt g) (bV (fun g1 => AW Γ l mX12_number (d + 1) b 6 [vR 171, vI x1, vI x2, vI 0] [] (stt g1) K) K)) : Ct Γ l (d + 1) b yX12_number mX12_number [vR 171, vI x1, vI x2] (stt g) K := by
  refine Ct.enter (L := [vR 171, vI x1, vI x2, vU]) rfl rfl rfl (by decide +kernel) (by simp [oneSlot]) (Nat.le_of_ble_eq_true rfl) rfl ?_
  refine aw_aload_n (k' := 0) (by decide +kernel) rfl ?_
  refine aw_callV (y := yX12_blanks) (M2 := mX12_blanks) (as := []) (S := []) (t := 171) (d2 := d) (b2 := 0) (b3 := b) cwX12_blanks mlX12_112 imX12_blanks seX12_blanks (by decide +kernel) rfl (ci := 10) rfl (OB.at (ci := 10) (show shp 171 = (20, 0) by decide +kernel) (by decide)) (Nat.le_refl _) (Nat.le_of_eq (Nat.zero_add _)) rfl rfl (by simp [oneSlot]) (Nat.le_of_ble_eq_true rfl) (Ct.mono hF ?_)
  rintro o h' (⟨g1, rfl, rfl, hG⟩ | ⟨E, g, rfl, rfl, hG⟩)
  · show AW Γ l mX12_number (d + 1) b 4 [vR 171, vI x1, vI x2, vU] [] (stt g1) K
    refine aw_iconst (n := 0) (by decide +kernel) ?_
    refine aw_istore_n (k' := 3) (by decide +kernel) (by decide) ?_
    show AW Γ l mX12_number (d + 1) b 6 [vR 171, vI x1, vI x2, vI 0] [] (stt g1) K
    exact hG
  · exact hG
set_option maxHeartbeats 1000000 in
theorem wpX12_number_6 {Γ : Cfg} {l : Launch} {d b : Nat} {g : GG} {K : Ou → HP → Prop} {x1 : Int} {x2 : Int} {y3 : Int} (hF : Ct Γ l d 0 yX12_isAt mX12_isAt [vR 171, vI 48, vI 57] (stt g) (bI (fun v1 g1 => (wr v1 = 0 → (wr (g1 171 10) = wr (g1 171 12) → K (.inl (vI (-1))) (stt g1)) ∧ (¬ (wr (g1 171 10) = wr (g1 171 12)) → (3 < wr ((g1 171 10) - (g1 171 12)) → K (.inl (vI (-1))) (stt g1)) ∧ (¬ (3 < wr ((g1 171 10) - (g1 171 12))) → (wr y3 < wr x1 → K (.inl (vI (-1))) (stt g1)) ∧ (¬ (wr y3 < wr x1) → (wr y3 ≤ wr x2 → K (.inl (vI y3)) (stt g1)) ∧ (¬ (wr y3 ≤ wr x2) → K (.inl (vI (-1))) (stt g1)))))) ∧ (¬ (wr v1 = 0) → (3 ≤ wr ((g1 171 10) - (g1 171 12)) → AW Γ l mX12_number (d + 1) b 6 [vR 171, vI x1, vI x2, vI y3] [] (stt (upd2 g1 171 10 ((g1 171 10) + 1))) K) ∧ (¬ (3 ≤ wr ((g1 171 10) - (g1 171 12))) → (0 ≤ wr (g1 171 10) ∧ wr (g1 171 10) < 400) ∧ (AW Γ l mX12_number (d + 1) b 6 [vR 171, vI x1, vI x2, vI (((10 * y3) + (g1 177 (wr (g1 171 10)))) - 48)] [] (stt (upd2 g1 171 10 ((g1 171 10) + 1))) K)))) K)) : AW Γ l mX12_number (d + 1) b 6 [vR 171, vI x1, vI x2, vI y3] [] (stt g) K := by
  refine aw_aload_n (k' := 0) (by decide +kernel) rfl ?_
  refine aw_bipush (n := 48) (by decide +kernel) (by decide +kernel) ?_
  refine aw_bipush (n := 57) (by decide +kernel) (by decide +kernel) ?_
  refine aw_callV (y := yX12_isAt) (M2 := mX12_isAt) (as := [vI 48, vI 57]) (S := []) (t := 171) (d2 := d) (b2 := 0) (b3 := b) cwX12_isAt mlX12_105 imX12_isAt seX12_isAt (by decide +kernel) rfl (ci := 10) rfl (OB.at (ci := 10) (show shp 171 = (20, 0) by decide +kernel) (by decide)) (Nat.le_refl _) (Nat.le_of_eq (Nat.zero_add _)) rfl rfl (by simp [oneSlot]) (Nat.le_of_ble_eq_true rfl) (Ct.mono hF ?_)
  rintro o h' (⟨v1, g1, rfl, rfl, hG⟩ | ⟨E, g, rfl, rfl, hG⟩)
  · show AW Γ l mX12_number (d + 1) b 14 [vR 171, vI x1, vI x2, vI y3] [vI v1] (stt g1) K
    refine ax_if_eq (off := 51) (tgt := 65) (x' := wr v1) (by decide +kernel) (by decide) rfl (fun hc => ?_) (fun hc => ?_)
    · have hG := hG.1 hc
      refine aw_aload_n (k' := 0) (by decide +kernel) rfl ?_
      refine gfX12_99 rfl (by decide +kernel) (OB.at (ci := 10) (show shp 171 = (20, 0) by decide +kernel) (by decide)) ?_
      refine aw_aload_n (k' := 0) (by decide +kernel) rfl ?_
      refine gfX12_109 rfl (by decide +kernel) (OB.at (ci := 10) (show shp 171 = (20, 0) by decide +kernel) (by decide)) ?_
      refine ax_icmp_eq (off := 26) (tgt := 99) (x' := wr (g1 171 10)) (y' := wr (g1 171 12)) (by decide +kernel) (by decide) rfl rfl (fun hc => ?_) (fun hc => ?_)
      · have hG := hG.1 hc
        refine aw_iconst (n := -1) (by decide +kernel) ?_
        refine aw_goto (off := 4) (tgt := 104) (by decide +kernel) (by decide) ?_
        exact aw_iret (by decide +kernel) rfl hG
      · have hG := hG.2 hc
        refine aw_aload_n (k' := 0) (by decide +kernel) rfl ?_
        refine gfX12_99 rfl (by decide +kernel) (OB.at (ci := 10) (show shp 171 = (20, 0) by decide +kernel) (by decide)) ?_
        refine aw_aload_n (k' := 0) (by decide +kernel) rfl ?_
        refine gfX12_109 rfl (by decide +kernel) (OB.at (ci := 10) (show shp 171 = (20, 0) by decide +kernel) (by decide)) ?_
        refine aw_isub (by decide +kernel) ?_
        refine aw_iconst (n := 3) (by decide +kernel) ?_
        refine ax_icmp_gt (off := 13) (tgt := 99) (x' := wr ((g1 171 10) - (g1 171 12))) (y' := 3) (by decide +kernel) (by decide) rfl (by decide +kernel) (fun hc => ?_) (fun hc => ?_)
        · have hG := hG.1 hc
          refine aw_iconst (n := -1) (by decide +kernel) ?_
          refine aw_goto (off := 4) (tgt := 104) (by decide +kernel) (by decide) ?_
          exact aw_iret (by decide +kernel) rfl hG
        · have hG := hG.2 hc
          refine aw_iload_n (k' := 3) (by decide +kernel) rfl ?_
          refine aw_iload_n (k' := 1) (by decide +kernel) rfl ?_
          refine ax_icmp_lt (off := 8) (tgt := 99) (x' := wr y3) (y' := wr x1) (by decide +kernel) (by decide) rfl rfl (fun hc => ?_) (fun hc => ?_)
          · have hG := hG.1 hc
            refine aw_iconst (n := -1) (by decide +kernel) ?_
            refine aw_goto (off := 4) (tgt := 104) (by decide +kernel) (by decide) ?_
            exact aw_iret (by decide +kernel) rfl hG
          · have hG := hG.2 hc
            refine aw_iload_n (k' := 3) (by decide +kernel) rfl ?_
            refine aw_iload_n (k' := 2) (by decide +kernel) rfl ?_
            refine ax_icmp_le (off := 7) (tgt := 103) (x' := wr y3) (y' := wr x2) (by decide +kernel) (by decide) rfl rfl (fun hc => ?_) (fun hc => ?_)
            · have hG := hG.1 hc
              refine aw_iload_n (k' := 3) (by decide +kernel) rfl ?_
              exact aw_iret (by decide +kernel) rfl hG
            · have hG := hG.2 hc
              refine aw_iconst (n := -1) (by decide +kernel) ?_
              refine aw_goto (off := 4) (tgt := 104) (by decide +kernel) (by decide) ?_
              exact aw_iret (by decide +kernel) rfl hG
    · have hG := hG.2 hc
      refine aw_aload_n (k' := 0) (by decide +kernel) rfl ?_
      refine gfX12_99 rfl (by decide +kernel) (OB.at (ci := 10) (show shp 171 = (20, 0) by decide +kernel) (by decide)) ?_
      refine aw_aload_n (k' := 0) (by decide +kernel) rfl ?_
      refine gfX12_109 rfl (by decide +kernel) (OB.at (ci := 10) (show shp 171 = (20, 0) by decide +kernel) (by decide)) ?_
      refine aw_isub (by decide +kernel) ?_
      refine aw_iconst (n := 3) (by decide +kernel) ?_
      refine ax_icmp_ge (off := 23) (tgt := 50) (x' := wr ((g1 171 10) - (g1 171 12))) (y' := 3) (by decide +kernel) (by decide) rfl (by decide +kernel) (fun hc => ?_) (fun hc => ?_)
      · have hG := hG.1 hc
        refine aw_iload_n (k' := 3) (by decide +kernel) rfl ?_
        refine aw_istore_n (k' := 3) (by decide +kernel) (by decide) ?_
        show AW Γ l mX12_number (d + 1) b 52 [vR 171, vI x1, vI x2, vI y3] [] (stt g1) K
        refine aw_aload_n (k' := 0) (by decide +kernel) rfl ?_
        refine aw_dup (by decide +kernel) trivial ?_
        refine gfX12_99 rfl (by decide +kernel) (OB.at (ci := 10) (show shp 171 = (20, 0) by decide +kernel) (by decide)) ?_
        refine aw_iconst (n := 1) (by decide +kernel) ?_
        refine aw_iadd (by decide +kernel) ?_
        refine pfX12_99 rfl (by decide +kernel) (OB.at (ci := 10) (show shp 171 = (20, 0) by decide +kernel) (by decide)) ?_
        show AW Γ l mX12_number (d + 1) b 62 [vR 171, vI x1, vI x2, vI y3] [] (stt (upd2 g1 171 10 ((g1 171 10) + 1))) K
        refine aw_goto (off := -56) (tgt := 6) (by decide +kernel) (by decide) ?_
        exact hG
      · have hG := hG.2 hc
        refine aw_bipush (n := 10) (by decide +kernel) (by decide +kernel) ?_
        refine aw_iload_n (k' := 3) (by decide +kernel) rfl ?_
        refine aw_imul (by decide +kernel) ?_
        refine aw_aload_n (k' := 0) (by decide +kernel) rfl ?_
        refine gfX12_29 rfl (by decide +kernel) (OB.at (ci := 10) (show shp 171 = (20, 0) by decide +kernel) (by decide)) ?_
        refine AW.topR (show RC 171 8 = 177 by decide +kernel) ?_
        refine aw_aload_n (k' := 0) (by decide +kernel) rfl ?_
        refine gfX12_99 rfl (by decide +kernel) (OB.at (ci := 10) (show shp 171 = (20, 0) by decide +kernel) (by decide)) ?_
        refine ax_bald (i := wr (g1 171 10)) (by decide +kernel) (isA_lit (show shp 177 = (1, 400) by decide +kernel) (by decide)) rfl hG.1 ?_
        replace hG := hG.2
        refine aw_iadd (by decide +kernel) ?_
        refine aw_bipush (n := 48) (by decide +kernel) (by decide +kernel) ?_
        refine aw_isub (by decide +kernel) ?_
        refine aw_goto (off := 4) (tgt := 51) (by decide +kernel) (by decide) ?_
        refine aw_istore_n (k' := 3) (by decide +kernel) (by decide) ?_
        show AW Γ l mX12_number (d + 1) b 52 [vR 171, vI x1, vI x2, vI (((10 * y3) + (g1 177 (wr (g1 171 10)))) - 48)] [] (stt g1) K
        refine aw_aload_n (k' := 0) (by decide +kernel) rfl ?_
        refine aw_dup (by decide +kernel) trivial ?_
        refine gfX12_99 rfl (by decide +kernel) (OB.at (ci := 10) (show shp 171 = (20, 0) by decide +kernel) (by decide)) ?_
        refine aw_iconst (n := 1) (by decide +kernel) ?_
        refine aw_iadd (by decide +kernel) ?_
        refine pfX12_99 rfl (by decide +kernel) (OB.at (ci := 10) (show shp 171 = (20, 0) by decide +kernel) (by decide)) ?_
        show AW Γ l mX12_number (d + 1) b 62 [vR 171, vI x1, vI x2, vI (((10 * y3) + (g1 177 (wr (g1 171 10)))) - 48)] [] (stt (upd2 g1 171 10 ((g1 171 10) + 1))) K
        refine aw_goto (off := -56) (tgt := 6) (by decide +kernel) (by decide) ?_
        exact hG
  · exact hG

set_option maxHeartbeats 1000000 in
theorem wpX12_told {Γ : Cfg} {l : Launch} {d b : Nat} {g : GG} {K : Ou → HP → Prop} {t1 : Int} (ht1 : SS t1) {x2 : Int} {x3 : Int} {x4 : Int} (hF : Ct Γ l d 0 yX12_passes mX12_passes [vR 171, vR t1] (stt g) (bI (fun v1 g1 => (¬ wr v1 = 0 → Ct Γ l d 0 yX12_number mX12_number [vR 171, vI x2, vI x3] (stt g1) (bI (fun v2 g2 => (0 ≤ wr v2 → K (.inl (vI v2)) (stt g2)) ∧ (¬ (0 ≤ wr v2) → K (.inl (vI 1000000)) (stt g2))) K)) ∧ (¬ (¬ wr v1 = 0) → K (.inl (vI x4)) (stt g1))) K)) : Ct Γ l (d + 1) b yX12_told mX12_told [vR 171, vR t1, vI x2, vI x3, vI x4] (stt g) K := by
  refine Ct.enter (L := [vR 171, vR t1, vI x2, vI x3, vI x4, vU]) rfl rfl rfl (by decide +kernel) (by simp [oneSlot]) (Nat.le_of_ble_eq_true rfl) rfl ?_
  refine aw_aload_n (k' := 0) (by decide +kernel) rfl ?_
  refine aw_aload_n (k' := 1) (by decide +kernel) rfl ?_
  refine aw_callV (y := yX12_passes) (M2 := mX12_passes) (as := [vR t1]) (S := []) (t := 171) (d2 := d) (b2 := 0) (b3 := b) cwX12_passes mlX12_131 imX12_passes seX12_passes (by decide +kernel) rfl (ci := 10) rfl (OB.at (ci := 10) (show shp 171 = (20, 0) by decide +kernel) (by decide)) (Nat.le_refl _) (Nat.le_of_eq (Nat.zero_add _)) rfl rfl (by simp [oneSlot]) (Nat.le_of_ble_eq_true rfl) (Ct.mono hF ?_)
  rintro o h' (⟨v1, g1, rfl, rfl, hG⟩ | ⟨E, g, rfl, rfl, hG⟩)
  · show AW Γ l mX12_told (d + 1) b 5 [vR 171, vR t1, vI x2, vI x3, vI x4, vU] [vI v1] (stt g1) K
    refine ax_if_ne (off := 6) (tgt := 11) (x' := wr v1) (by decide +kernel) (by decide) rfl (fun hc => ?_) (fun hc => ?_)
    · have hG := hG.1 hc
      refine aw_aload_n (k' := 0) (by decide +kernel) rfl ?_
      refine aw_iload_n (k' := 2) (by decide +kernel) rfl ?_
      refine aw_iload_n (k' := 3) (by decide +kernel) rfl ?_
      refine aw_callV (y := yX12_number) (M2 := mX12_number) (as := [vI x2, vI x3]) (S := []) (t := 171) (d2 := d) (b2 := 0) (b3 := b) cwX12_number mlX12_134 imX12_number seX12_number (by decide +kernel) rfl (ci := 10) rfl (OB.at (ci := 10) (show shp 171 = (20, 0) by decide +kernel) (by decide)) (Nat.le_refl _) (Nat.le_of_eq (Nat.zero_add _)) rfl rfl (by simp [oneSlot]) (Nat.le_of_ble_eq_true rfl) (Ct.mono hG ?_)
      rintro o h' (⟨v2, g2, rfl, rfl, hG⟩ | ⟨E, g, rfl, rfl, hG⟩)
      · show AW Γ l mX12_told (d + 1) b 17 [vR 171, vR t1, vI x2, vI x3, vI x4, vU] [vI v2] (stt g2) K
        refine aw_istore (i := 5) (by decide +kernel) (by decide) ?_
        show AW Γ l mX12_told (d + 1) b 19 [vR 171, vR t1, vI x2, vI x3, vI x4, vI v2] [] (stt g2) K
        refine aw_iload (i := 5) (by decide +kernel) rfl ?_
        refine ax_if_ge (off := 8) (tgt := 29) (x' := wr v2) (by decide +kernel) (by decide) rfl (fun hc => ?_) (fun hc => ?_)
        · have hG := hG.1 hc
          refine aw_iload (i := 5) (by decide +kernel) rfl ?_
          exact aw_iret (by decide +kernel) rfl hG
        · have hG := hG.2 hc
          refine aw_ldc (idx := 137) (z := 1000000) (by decide +kernel) (tm7 115 (by decide +kernel) (by decide +kernel)) ?_
          refine aw_goto (off := 5) (tgt := 31) (by decide +kernel) (by decide) ?_
          exact aw_iret (by decide +kernel) rfl hG
      · exact hG
    · have hG := hG.2 hc
      refine aw_iload (i := 4) (by decide +kernel) rfl ?_
      exact aw_iret (by decide +kernel) rfl hG
  · exact hG

set_option maxHeartbeats 1000000 in
theorem wpX12_fault {Γ : Cfg} {l : Launch} {d b : Nat} {g : GG} {K : Ou → HP → Prop}  (hF : K (.inl (vI ((upd2 g 171 0 0) 171 14))) (stt (upd2 g 171 0 0))) : Ct Γ l d b yX12_fault mX12_fault [vR 171] (stt g) K := by
  refine Ct.enter (L := [vR 171]) rfl rfl rfl (by decide +kernel) (by simp [oneSlot]) (Nat.le_of_ble_eq_true rfl) rfl ?_
  refine aw_aload_n (k' := 0) (by decide +kernel) rfl ?_
  refine aw_iconst (n := 0) (by decide +kernel) ?_
  refine pfX12_3 rfl (by decide +kernel) (OB.at (ci := 10) (show shp 171 = (20, 0) by decide +kernel) (by decide)) ?_
  show AW Γ l mX12_fault d b 5 [vR 171] [] (stt (upd2 g 171 0 0)) K
  refine aw_aload_n (k' := 0) (by decide +kernel) rfl ?_
  refine gfX12_33 rfl (by decide +kernel) (OB.at (ci := 10) (show shp 171 = (20, 0) by decide +kernel) (by decide)) ?_
  exact aw_iret (by decide +kernel) rfl hF

set_option maxHeartbeats 1000000 in
theorem wpX12_uses {Γ : Cfg} {l : Launch} {d b : Nat} {g : GG} {K : Ou → HP → Prop}  (hF : (∀ g1 : GG, g1 = upd2 (upd2 g 171 0 0) 171 11 ((upd2 g 171 0 0) 171 9) → K (.inl vU) (stt (upd2 (upd2 g1 171 9 0) 171 10 0)))) : Ct Γ l d b yX12_uses mX12_uses [vR 171] (stt g) K := by
  refine Ct.enter (L := [vR 171]) rfl rfl rfl (by decide +kernel) (by simp [oneSlot]) (Nat.le_of_ble_eq_true rfl) rfl ?_
  refine aw_aload_n (k' := 0) (by decide +kernel) rfl ?_
  refine aw_iconst (n := 0) (by decide +kernel) ?_
  refine pfX12_3 rfl (by decide +kernel) (OB.at (ci := 10) (show shp 171 = (20, 0) by decide +kernel) (by decide)) ?_
  show AW Γ l mX12_uses d b 5 [vR 171] [] (stt (upd2 g 171 0 0)) K
  refine aw_aload_n (k' := 0) (by decide +kernel) rfl ?_
  refine aw_aload_n (k' := 0) (by decide +kernel) rfl ?_
  refine gfX12_96 rfl (by decide +kernel) (OB.at (ci := 10) (show shp 171 = (20, 0) by decide +kernel) (by decide)) ?_
  refine pfX12_102 rfl (by decide +kernel) (OB.at (ci := 10) (show shp 171 = (20, 0) by decide +kernel) (by decide)) ?_
  show AW Γ l mX12_uses d b 13 [vR 171] [] (stt (upd2 (upd2 g 171 0 0) 171 11 ((upd2 g 171 0 0) 171 9))) K
  generalize eg1 : upd2 (upd2 g 171 0 0) 171 11 ((upd2 g 171 0 0) 171 9) = g1
  replace hF := hF g1 eg1.symm
  refine aw_aload_n (k' := 0) (by decide +kernel) rfl ?_
  refine aw_iconst (n := 0) (by decide +kernel) ?_
  refine pfX12_96 rfl (by decide +kernel) (OB.at (ci := 10) (show shp 171 = (20, 0) by decide +kernel) (by decide)) ?_
  show AW Γ l mX12_uses d b 18 [vR 171] [] (stt (upd2 g1 171 9 0)) K
  refine aw_aload_n (k' := 0) (by decide +kernel) rfl ?_
  refine aw_iconst (n := 0) (by decide +kernel) ?_
  refine pfX12_99 rfl (by decide +kernel) (OB.at (ci := 10) (show shp 171 = (20, 0) by decide +kernel) (by decide)) ?_
  show AW Γ l mX12_uses d b 23 [vR 171] [] (stt (upd2 (upd2 g1 171 9 0) 171 10 0)) K
  exact aw_vret (by decide +kernel) rfl hF

set_option maxHeartbeats 1000000 in
theorem wpX12_readNumber {Γ : Cfg} {l : Launch} {d b : Nat} {g : GG} {K : Ou → HP → Prop} {x1 : Int} {x2 : Int} {x3 : Int} (hF : Ct Γ l d 0 yX12_number mX12_number [vR 171, vI x2, vI x3] (stt g) (bI (fun v1 g1 => (0 ≤ wr v1 → (0 ≤ wr x1 ∧ wr x1 < 2184) ∧ ((wr v1 < 0 → K (.inl (vI 0)) (stt (upd2 g1 172 (wr x1) v1))) ∧ (¬ (wr v1 < 0) → K (.inl (vI 1)) (stt (upd2 g1 172 (wr x1) v1))))) ∧ (¬ (0 ≤ wr v1) → (0 ≤ wr x1 ∧ wr x1 < 2184) ∧ ((0 ≤ wr x1 ∧ wr x1 < 2184) ∧ (∀ g2 : GG, g2 = upd2 g1 172 (wr x1) (g1 172 (wr x1)) → (wr v1 < 0 → K (.inl (vI 0)) (stt g2)) ∧ (¬ (wr v1 < 0) → K (.inl (vI 1)) (stt g2)))))) K)) : Ct Γ l (d + 1) b yX12_readNumber mX12_readNumber [vR 171, vI x1, vI x2, vI x3] (stt g) K := by
  refine Ct.enter (L := [vR 171, vI x1, vI x2, vI x3, vU]) rfl rfl rfl (by decide +kernel) (by simp [oneSlot]) (Nat.le_of_ble_eq_true rfl) rfl ?_
  refine aw_aload_n (k' := 0) (by decide +kernel) rfl ?_
  refine aw_iload_n (k' := 2) (by decide +kernel) rfl ?_
  refine aw_iload_n (k' := 3) (by decide +kernel) rfl ?_
  refine aw_callV (y := yX12_number) (M2 := mX12_number) (as := [vI x2, vI x3]) (S := []) (t := 171) (d2 := d) (b2 := 0) (b3 := b) cwX12_number mlX12_134 imX12_number seX12_number (by decide +kernel) rfl (ci := 10) rfl (OB.at (ci := 10) (show shp 171 = (20, 0) by decide +kernel) (by decide)) (Nat.le_refl _) (Nat.le_of_eq (Nat.zero_add _)) rfl rfl (by simp [oneSlot]) (Nat.le_of_ble_eq_true rfl) (Ct.mono hF ?_)
  rintro o h' (⟨v1, g1, rfl, rfl, hG⟩ | ⟨E, g, rfl, rfl, hG⟩)
  · show AW Γ l mX12_readNumber (d + 1) b 6 [vR 171, vI x1, vI x2, vI x3, vU] [vI v1] (stt g1) K
    refine aw_istore (i := 4) (by decide +kernel) (by decide) ?_
    show AW Γ l mX12_readNumber (d + 1) b 8 [vR 171, vI x1, vI x2, vI x3, vI v1] [] (stt g1) K
    refine aw_aload_n (k' := 0) (by decide +kernel) rfl ?_
    refine gfX12_13 rfl (by decide +kernel) (OB.at (ci := 10) (show shp 171 = (20, 0) by decide +kernel) (by decide)) ?_
    refine AW.topR (show RC 171 1 = 172 by decide +kernel) ?_
    refine aw_iload_n (k' := 1) (by decide +kernel) rfl ?_
    refine aw_iload (i := 4) (by decide +kernel) rfl ?_
    refine ax_if_ge (off := 12) (tgt := 27) (x' := wr v1) (by decide +kernel) (by decide) rfl (fun hc => ?_) (fun hc => ?_)
    · have hG := hG.1 hc
      refine aw_iload (i := 4) (by decide +kernel) rfl ?_
      refine ax_iast (i := wr x1) (by decide +kernel) (isA_lit (show shp 172 = (0, 2184) by decide +kernel) (by decide)) rfl hG.1 ?_
      show AW Γ l mX12_readNumber (d + 1) b 30 [vR 171, vI x1, vI x2, vI x3, vI v1] [] (stt (upd2 g1 172 (wr x1) v1)) K
      replace hG := hG.2
      refine aw_iload (i := 4) (by decide +kernel) rfl ?_
      refine ax_if_lt (off := 7) (tgt := 39) (x' := wr v1) (by decide +kernel) (by decide) rfl (fun hc => ?_) (fun hc => ?_)
      · have hG := hG.1 hc
        refine aw_iconst (n := 0) (by decide +kernel) ?_
        exact aw_zret (by decide +kernel) rfl rfl hG
      · have hG := hG.2 hc
        refine aw_iconst (n := 1) (by decide +kernel) ?_
        refine aw_goto (off := 4) (tgt := 40) (by decide +kernel) (by decide) ?_
        exact aw_zret (by decide +kernel) rfl rfl hG
    · have hG := hG.2 hc
      refine aw_aload_n (k' := 0) (by decide +kernel) rfl ?_
      refine gfX12_13 rfl (by decide +kernel) (OB.at (ci := 10) (show shp 171 = (20, 0) by decide +kernel) (by decide)) ?_
      refine AW.topR (show RC 171 1 = 172 by decide +kernel) ?_
      refine aw_iload_n (k' := 1) (by decide +kernel) rfl ?_
      refine ax_iald (i := wr x1) (by decide +kernel) (isA_lit (show shp 172 = (0, 2184) by decide +kernel) (by decide)) rfl hG.1 ?_
      replace hG := hG.2
      refine aw_goto (off := 5) (tgt := 29) (by decide +kernel) (by decide) ?_
      refine ax_iast (i := wr x1) (by decide +kernel) (isA_lit (show shp 172 = (0, 2184) by decide +kernel) (by decide)) rfl hG.1 ?_
      show AW Γ l mX12_readNumber (d + 1) b 30 [vR 171, vI x1, vI x2, vI x3, vI v1] [] (stt (upd2 g1 172 (wr x1) (g1 172 (wr x1)))) K
      replace hG := hG.2
      show AW Γ l mX12_readNumber (d + 1) b 30 [vR 171, vI x1, vI x2, vI x3, vI v1] [] (stt (upd2 g1 172 (wr x1) (g1 172 (wr x1)))) K
      generalize eg2 : upd2 g1 172 (wr x1) (g1 172 (wr x1)) = g2
      replace hG := hG g2 eg2.symm
      refine aw_iload (i := 4) (by decide +kernel) rfl ?_
      refine ax_if_lt (off := 7) (tgt := 39) (x' := wr v1) (by decide +kernel) (by decide) rfl (fun hc => ?_) (fun hc => ?_)
      · have hG := hG.1 hc
        refine aw_iconst (n := 0) (by decide +kernel) ?_
        exact aw_zret (by decide +kernel) rfl rfl hG
      · have hG := hG.2 hc
        refine aw_iconst (n := 1) (by decide +kernel) ?_
        refine aw_goto (off := 4) (tgt := 40) (by decide +kernel) (by decide) ?_
        exact aw_zret (by decide +kernel) rfl rfl hG
  · exact hG

set_option maxHeartbeats 1000000 in
theorem wpX12_kindRead {Γ : Cfg} {l : Launch} {d b : Nat} {g : GG} {K : Ou → HP → Prop}  (hF : Ct Γ l d 0 yX12_isWord mX12_isWord [vR 171, vR 2017] (stt g) (bI (fun v1 g1 => (wr v1 = 0 → Ct Γ l d 0 yX12_isWord mX12_isWord [vR 171, vR 2018] (stt g1) (bI (fun v2 g2 => (wr v2 = 0 → Ct Γ l d 0 yX12_isWord mX12_isWord [vR 171, vR 2019] (stt g2) (bI (fun v3 g3 => (wr v3 = 0 → Ct Γ l d 0 yX12_isWord mX12_isWord [vR 171, vR 2020] (stt g3) (bI (fun v4 g4 => (wr v4 = 0 → Ct Γ l d 0 yX12_isWord mX12_isWord [vR 171, vR 2021] (stt g4) (bI (fun v5 g5 => (wr v5 = 0 → Ct Γ l d 0 yX12_isWord mX12_isWord [vR 171, vR 2022] (stt g5) (bI (fun v6 g6 => (wr v6 = 0 → Ct Γ l d 0 yX12_isWord mX12_isWord [vR 171, vR 2023] (stt g6) (bI (fun v7 g7 => (wr v7 = 0 → Ct Γ l d 0 yX12_isWord mX12_isWord [vR 171, vR 2024] (stt g7) (bI (fun v8 g8 => (wr v8 = 0 → Ct Γ l d 0 yX12_isWord mX12_isWord [vR 171, vR 2025] (stt g8) (bI (fun v9 g9 => (wr v9 = 0 → Ct Γ l d 0 yX12_isWord mX12_isWord [vR 171, vR 2026] (stt g9) (bI (fun v10 g10 => (wr v10 = 0 → K (.inl (vI (-1))) (stt g10)) ∧ (¬ (wr v10 = 0) → K (.inl (vI 9)) (stt g10))) K)) ∧ (¬ (wr v9 = 0) → K (.inl (vI 8)) (stt g9))) K)) ∧ (¬ (wr v8 = 0) → K (.inl (vI 7)) (stt g8))) K)) ∧ (¬ (wr v7 = 0) → K (.inl (vI 6)) (stt g7))) K)) ∧ (¬ (wr v6 = 0) → K (.inl (vI 5)) (stt g6))) K)) ∧ (¬ (wr v5 = 0) → K (.inl (vI 4)) (stt g5))) K)) ∧ (¬ (wr v4 = 0) → K (.inl (vI 3)) (stt g4))) K)) ∧ (¬ (wr v3 = 0) → K (.inl (vI 2)) (stt g3))) K)) ∧ (¬ (wr v2 = 0) → K (.inl (vI 1)) (stt g2))) K)) ∧ (¬ (wr v1 = 0) → K (.inl (vI 0)) (stt g1))) K)) : Ct Γ l (d + 1) b yX12_kindRead mX12_kindRead [vR 171] (stt g) K := by
  refine Ct.enter (L := [vR 171]) rfl rfl rfl (by decide +kernel) (by simp [oneSlot]) (Nat.le_of_ble_eq_true rfl) rfl ?_
  refine aw_aload_n (k' := 0) (by decide +kernel) rfl ?_
  refine aw_ldcS (idx := 138) (i := 17) (r := 2017) (by decide +kernel) (by decide) (by decide) (by decide +kernel) ?_
  refine aw_callV (y := yX12_isWord) (M2 := mX12_isWord) (as := [vR 2017]) (S := []) (t := 171) (d2 := d) (b2 := 0) (b3 := b) cwX12_isWord mlX12_127 imX12_isWord seX12_isWord (by decide +kernel) rfl (ci := 10) rfl (OB.at (ci := 10) (show shp 171 = (20, 0) by decide +kernel) (by decide)) (Nat.le_refl _) (Nat.le_of_eq (Nat.zero_add _)) rfl rfl (by simp [oneSlot]) (Nat.le_of_ble_eq_true rfl) (Ct.mono hF ?_)
  rintro o h' (⟨v1, g1, rfl, rfl, hG⟩ | ⟨E, g, rfl, rfl, hG⟩)
  · show AW Γ l mX12_kindRead (d + 1) b 6 [vR 171] [vI v1] (stt g1) K
    refine ax_if_eq (off := 5) (tgt := 11) (x' := wr v1) (by decide +kernel) (by decide) rfl (fun hc => ?_) (fun hc => ?_)
    · have hG := hG.1 hc
      refine aw_aload_n (k' := 0) (by decide +kernel) rfl ?_
      refine aw_ldcS (idx := 140) (i := 18) (r := 2018) (by decide +kernel) (by decide) (by decide) (by decide +kernel) ?_
      refine aw_callV (y := yX12_isWord) (M2 := mX12_isWord) (as := [vR 2018]) (S := []) (t := 171) (d2 := d) (b2 := 0) (b3 := b) cwX12_isWord mlX12_127 imX12_isWord seX12_isWord (by decide +kernel) rfl (ci := 10) rfl (OB.at (ci := 10) (show shp 171 = (20, 0) by decide +kernel) (by decide)) (Nat.le_refl _) (Nat.le_of_eq (Nat.zero_add _)) rfl rfl (by simp [oneSlot]) (Nat.le_of_ble_eq_true rfl) (Ct.mono hG ?_)
      rintro o h' (⟨v2, g2, rfl, rfl, hG⟩ | ⟨E, g, rfl, rfl, hG⟩)
      · show AW Γ l mX12_kindRead (d + 1) b 17 [vR 171] [vI v2] (stt g2) K
        refine ax_if_eq (off := 5) (tgt := 22) (x' := wr v2) (by decide +kernel) (by decide) rfl (fun hc => ?_) (fun hc => ?_)
        · have hG := hG.1 hc
          refine aw_aload_n (k' := 0) (by decide +kernel) rfl ?_
          refine aw_ldcS (idx := 142) (i := 19) (r := 2019) (by decide +kernel) (by decide) (by decide) (by decide +kernel) ?_
          refine aw_callV (y := yX12_isWord) (M2 := mX12_isWord) (as := [vR 2019]) (S := []) (t := 171) (d2 := d) (b2 := 0) (b3 := b) cwX12_isWord mlX12_127 imX12_isWord seX12_isWord (by decide +kernel) rfl (ci := 10) rfl (OB.at (ci := 10) (show shp 171 = (20, 0) by decide +kernel) (by decide)) (Nat.le_refl _) (Nat.le_of_eq (Nat.zero_add _)) rfl rfl (by simp [oneSlot]) (Nat.le_of_ble_eq_true rfl) (Ct.mono hG ?_)
          rintro o h' (⟨v3, g3, rfl, rfl, hG⟩ | ⟨E, g, rfl, rfl, hG⟩)
          · show AW Γ l mX12_kindRead (d + 1) b 28 [vR 171] [vI v3] (stt g3) K
            refine ax_if_eq (off := 5) (tgt := 33) (x' := wr v3) (by decide +kernel) (by decide) rfl (fun hc => ?_) (fun hc => ?_)
            · have hG := hG.1 hc
              refine aw_aload_n (k' := 0) (by decide +kernel) rfl ?_
              refine aw_ldcS (idx := 144) (i := 20) (r := 2020) (by decide +kernel) (by decide) (by decide) (by decide +kernel) ?_
              refine aw_callV (y := yX12_isWord) (M2 := mX12_isWord) (as := [vR 2020]) (S := []) (t := 171) (d2 := d) (b2 := 0) (b3 := b) cwX12_isWord mlX12_127 imX12_isWord seX12_isWord (by decide +kernel) rfl (ci := 10) rfl (OB.at (ci := 10) (show shp 171 = (20, 0) by decide +kernel) (by decide)) (Nat.le_refl _) (Nat.le_of_eq (Nat.zero_add _)) rfl rfl (by simp [oneSlot]) (Nat.le_of_ble_eq_true rfl) (Ct.mono hG ?_)
              rintro o h' (⟨v4, g4, rfl, rfl, hG⟩ | ⟨E, g, rfl, rfl, hG⟩)
              · show AW Γ l mX12_kindRead (d + 1) b 39 [vR 171] [vI v4] (stt g4) K
                refine ax_if_eq (off := 5) (tgt := 44) (x' := wr v4) (by decide +kernel) (by decide) rfl (fun hc => ?_) (fun hc => ?_)
                · have hG := hG.1 hc
                  refine aw_aload_n (k' := 0) (by decide +kernel) rfl ?_
                  refine aw_ldcS (idx := 146) (i := 21) (r := 2021) (by decide +kernel) (by decide) (by decide) (by decide +kernel) ?_
                  refine aw_callV (y := yX12_isWord) (M2 := mX12_isWord) (as := [vR 2021]) (S := []) (t := 171) (d2 := d) (b2 := 0) (b3 := b) cwX12_isWord mlX12_127 imX12_isWord seX12_isWord (by decide +kernel) rfl (ci := 10) rfl (OB.at (ci := 10) (show shp 171 = (20, 0) by decide +kernel) (by decide)) (Nat.le_refl _) (Nat.le_of_eq (Nat.zero_add _)) rfl rfl (by simp [oneSlot]) (Nat.le_of_ble_eq_true rfl) (Ct.mono hG ?_)
                  rintro o h' (⟨v5, g5, rfl, rfl, hG⟩ | ⟨E, g, rfl, rfl, hG⟩)
                  · show AW Γ l mX12_kindRead (d + 1) b 50 [vR 171] [vI v5] (stt g5) K
                    refine ax_if_eq (off := 5) (tgt := 55) (x' := wr v5) (by decide +kernel) (by decide) rfl (fun hc => ?_) (fun hc => ?_)
                    · have hG := hG.1 hc
                      refine aw_aload_n (k' := 0) (by decide +kernel) rfl ?_
                      refine aw_ldcS (idx := 148) (i := 22) (r := 2022) (by decide +kernel) (by decide) (by decide) (by decide +kernel) ?_
                      refine aw_callV (y := yX12_isWord) (M2 := mX12_isWord) (as := [vR 2022]) (S := []) (t := 171) (d2 := d) (b2 := 0) (b3 := b) cwX12_isWord mlX12_127 imX12_isWord seX12_isWord (by decide +kernel) rfl (ci := 10) rfl (OB.at (ci := 10) (show shp 171 = (20, 0) by decide +kernel) (by decide)) (Nat.le_refl _) (Nat.le_of_eq (Nat.zero_add _)) rfl rfl (by simp [oneSlot]) (Nat.le_of_ble_eq_true rfl) (Ct.mono hG ?_)
                      rintro o h' (⟨v6, g6, rfl, rfl, hG⟩ | ⟨E, g, rfl, rfl, hG⟩)
                      · show AW Γ l mX12_kindRead (d + 1) b 61 [vR 171] [vI v6] (stt g6) K
                        refine ax_if_eq (off := 5) (tgt := 66) (x' := wr v6) (by decide +kernel) (by decide) rfl (fun hc => ?_) (fun hc => ?_)
                        · have hG := hG.1 hc
                          refine aw_aload_n (k' := 0) (by decide +kernel) rfl ?_
                          refine aw_ldcS (idx := 150) (i := 23) (r := 2023) (by decide +kernel) (by decide) (by decide) (by decide +kernel) ?_
                          refine aw_callV (y := yX12_isWord) (M2 := mX12_isWord) (as := [vR 2023]) (S := []) (t := 171) (d2 := d) (b2 := 0) (b3 := b) cwX12_isWord mlX12_127 imX12_isWord seX12_isWord (by decide +kernel) rfl (ci := 10) rfl (OB.at (ci := 10) (show shp 171 = (20, 0) by decide +kernel) (by decide)) (Nat.le_refl _) (Nat.le_of_eq (Nat.zero_add _)) rfl rfl (by simp [oneSlot]) (Nat.le_of_ble_eq_true rfl) (Ct.mono hG ?_)
                          rintro o h' (⟨v7, g7, rfl, rfl, hG⟩ | ⟨E, g, rfl, rfl, hG⟩)
                          · show AW Γ l mX12_kindRead (d + 1) b 72 [vR 171] [vI v7] (stt g7) K
                            refine ax_if_eq (off := 6) (tgt := 78) (x' := wr v7) (by decide +kernel) (by decide) rfl (fun hc => ?_) (fun hc => ?_)
                            · have hG := hG.1 hc
                              refine aw_aload_n (k' := 0) (by decide +kernel) rfl ?_
                              refine aw_ldcS (idx := 152) (i := 24) (r := 2024) (by decide +kernel) (by decide) (by decide) (by decide +kernel) ?_
                              refine aw_callV (y := yX12_isWord) (M2 := mX12_isWord) (as := [vR 2024]) (S := []) (t := 171) (d2 := d) (b2 := 0) (b3 := b) cwX12_isWord mlX12_127 imX12_isWord seX12_isWord (by decide +kernel) rfl (ci := 10) rfl (OB.at (ci := 10) (show shp 171 = (20, 0) by decide +kernel) (by decide)) (Nat.le_refl _) (Nat.le_of_eq (Nat.zero_add _)) rfl rfl (by simp [oneSlot]) (Nat.le_of_ble_eq_true rfl) (Ct.mono hG ?_)
                              rintro o h' (⟨v8, g8, rfl, rfl, hG⟩ | ⟨E, g, rfl, rfl, hG⟩)
                              · show AW Γ l mX12_kindRead (d + 1) b 84 [vR 171] [vI v8] (stt g8) K
                                refine ax_if_eq (off := 6) (tgt := 90) (x' := wr v8) (by decide +kernel) (by decide) rfl (fun hc => ?_) (fun hc => ?_)
                                · have hG := hG.1 hc
                                  refine aw_aload_n (k' := 0) (by decide +kernel) rfl ?_
                                  refine aw_ldcS (idx := 154) (i := 25) (r := 2025) (by decide +kernel) (by decide) (by decide) (by decide +kernel) ?_
                                  refine aw_callV (y := yX12_isWord) (M2 := mX12_isWord) (as := [vR 2025]) (S := []) (t := 171) (d2 := d) (b2 := 0) (b3 := b) cwX12_isWord mlX12_127 imX12_isWord seX12_isWord (by decide +kernel) rfl (ci := 10) rfl (OB.at (ci := 10) (show shp 171 = (20, 0) by decide +kernel) (by decide)) (Nat.le_refl _) (Nat.le_of_eq (Nat.zero_add _)) rfl rfl (by simp [oneSlot]) (Nat.le_of_ble_eq_true rfl) (Ct.mono hG ?_)
                                  rintro o h' (⟨v9, g9, rfl, rfl, hG⟩ | ⟨E, g, rfl, rfl, hG⟩)
                                  · show AW Γ l mX12_kindRead (d + 1) b 96 [vR 171] [vI v9] (stt g9) K
                                    refine ax_if_eq (off := 6) (tgt := 102) (x' := wr v9) (by decide +kernel) (by decide) rfl (fun hc => ?_) (fun hc => ?_)
                                    · have hG := hG.1 hc
                                      refine aw_aload_n (k' := 0) (by decide +kernel) rfl ?_
                                      refine aw_ldcS (idx := 156) (i := 26) (r := 2026) (by decide +kernel) (by decide) (by decide) (by decide +kernel) ?_
                                      refine aw_callV (y := yX12_isWord) (M2 := mX12_isWord) (as := [vR 2026]) (S := []) (t := 171) (d2 := d) (b2 := 0) (b3 := b) cwX12_isWord mlX12_127 imX12_isWord seX12_isWord (by decide +kernel) rfl (ci := 10) rfl (OB.at (ci := 10) (show shp 171 = (20, 0) by decide +kernel) (by decide)) (Nat.le_refl _) (Nat.le_of_eq (Nat.zero_add _)) rfl rfl (by simp [oneSlot]) (Nat.le_of_ble_eq_true rfl) (Ct.mono hG ?_)
                                      rintro o h' (⟨v10, g10, rfl, rfl, hG⟩ | ⟨E, g, rfl, rfl, hG⟩)
                                      · show AW Γ l mX12_kindRead (d + 1) b 108 [vR 171] [vI v10] (stt g10) K
                                        refine ax_if_eq (off := 8) (tgt := 116) (x' := wr v10) (by decide +kernel) (by decide) rfl (fun hc => ?_) (fun hc => ?_)
                                        · have hG := hG.1 hc
                                          refine aw_iconst (n := -1) (by decide +kernel) ?_
                                          exact aw_iret (by decide +kernel) rfl hG
                                        · have hG := hG.2 hc
                                          refine aw_bipush (n := 9) (by decide +kernel) (by decide +kernel) ?_
                                          refine aw_goto (off := 4) (tgt := 117) (by decide +kernel) (by decide) ?_
                                          exact aw_iret (by decide +kernel) rfl hG
                                      · exact hG
                                    · have hG := hG.2 hc
                                      refine aw_bipush (n := 8) (by decide +kernel) (by decide +kernel) ?_
                                      exact aw_iret (by decide +kernel) rfl hG
                                  · exact hG
                                · have hG := hG.2 hc
                                  refine aw_bipush (n := 7) (by decide +kernel) (by decide +kernel) ?_
                                  exact aw_iret (by decide +kernel) rfl hG
                              · exact hG
                            · have hG := hG.2 hc
                              refine aw_bipush (n := 6) (by decide +kernel) (by decide +kernel) ?_
                              exact aw_iret (by decide +kernel) rfl hG
                          · exact hG
                        · have hG := hG.2 hc
                          refine aw_iconst (n := 5) (by decide +kernel) ?_
                          exact aw_iret (by decide +kernel) rfl hG
                      · exact hG
                    · have hG := hG.2 hc
                      refine aw_iconst (n := 4) (by decide +kernel) ?_
                      exact aw_iret (by decide +kernel) rfl hG
                  · exact hG
                · have hG := hG.2 hc
                  refine aw_iconst (n := 3) (by decide +kernel) ?_
                  exact aw_iret (by decide +kernel) rfl hG
              · exact hG
            · have hG := hG.2 hc
              refine aw_iconst (n := 2) (by decide +kernel) ?_
              exact aw_iret (by decide +kernel) rfl hG
          · exact hG
        · have hG := hG.2 hc
          refine aw_iconst (n := 1) (by decide +kernel) ?_
          exact aw_iret (by decide +kernel) rfl hG
      · exact hG
    · have hG := hG.2 hc
      refine aw_iconst (n := 0) (by decide +kernel) ?_
      exact aw_iret (by decide +kernel) rfl hG
  · exact hG

set_option maxHeartbeats 1000000 in
theorem wpX12_hasNumber {Γ : Cfg} {l : Launch} {d b : Nat} {g : GG} {K : Ou → HP → Prop} {x0 : Int} (hF : (wr x0 = 3 → K (.inl (vI 1)) (stt g)) ∧ (¬ (wr x0 = 3) → (wr x0 = 4 → K (.inl (vI 1)) (stt g)) ∧ (¬ (wr x0 = 4) → (wr x0 = 6 → K (.inl (vI 1)) (stt g)) ∧ (¬ (wr x0 = 6) → (¬ wr x0 = 7 → K (.inl (vI 0)) (stt g)) ∧ (¬ (¬ wr x0 = 7) → K (.inl (vI 1)) (stt g)))))) : Ct Γ l d b yX12_hasNumber mX12_hasNumber [vI x0] (stt g) K := by
  refine Ct.enter (L := [vI x0]) rfl rfl rfl (by decide +kernel) (by simp [oneSlot]) (Nat.le_of_ble_eq_true rfl) rfl ?_
  refine aw_iload_n (k' := 0) (by decide +kernel) rfl ?_
  refine aw_iconst (n := 3) (by decide +kernel) ?_
  refine ax_icmp_eq (off := 20) (tgt := 22) (x' := wr x0) (y' := 3) (by decide +kernel) (by decide) rfl (by decide +kernel) (fun hc => ?_) (fun hc => ?_)
  · have hF := hF.1 hc
    refine aw_iconst (n := 1) (by decide +kernel) ?_
    refine aw_goto (off := 4) (tgt := 27) (by decide +kernel) (by decide) ?_
    exact aw_zret (by decide +kernel) rfl rfl hF
  · have hF := hF.2 hc
    refine aw_iload_n (k' := 0) (by decide +kernel) rfl ?_
    refine aw_iconst (n := 4) (by decide +kernel) ?_
    refine ax_icmp_eq (off := 15) (tgt := 22) (x' := wr x0) (y' := 4) (by decide +kernel) (by decide) rfl (by decide +kernel) (fun hc => ?_) (fun hc => ?_)
    · have hF := hF.1 hc
      refine aw_iconst (n := 1) (by decide +kernel) ?_
      refine aw_goto (off := 4) (tgt := 27) (by decide +kernel) (by decide) ?_
      exact aw_zret (by decide +kernel) rfl rfl hF
    · have hF := hF.2 hc
      refine aw_iload_n (k' := 0) (by decide +kernel) rfl ?_
      refine aw_bipush (n := 6) (by decide +kernel) (by decide +kernel) ?_
      refine ax_icmp_eq (off := 9) (tgt := 22) (x' := wr x0) (y' := 6) (by decide +kernel) (by decide) rfl (by decide +kernel) (fun hc => ?_) (fun hc => ?_)
      · have hF := hF.1 hc
        refine aw_iconst (n := 1) (by decide +kernel) ?_
        refine aw_goto (off := 4) (tgt := 27) (by decide +kernel) (by decide) ?_
        exact aw_zret (by decide +kernel) rfl rfl hF
      · have hF := hF.2 hc
        refine aw_iload_n (k' := 0) (by decide +kernel) rfl ?_
        refine aw_bipush (n := 7) (by decide +kernel) (by decide +kernel) ?_
        refine ax_icmp_ne (off := 7) (tgt := 26) (x' := wr x0) (y' := 7) (by decide +kernel) (by decide) rfl (by decide +kernel) (fun hc => ?_) (fun hc => ?_)
        · have hF := hF.1 hc
          refine aw_iconst (n := 0) (by decide +kernel) ?_
          exact aw_zret (by decide +kernel) rfl rfl hF
        · have hF := hF.2 hc
          refine aw_iconst (n := 1) (by decide +kernel) ?_
          refine aw_goto (off := 4) (tgt := 27) (by decide +kernel) (by decide) ?_
          exact aw_zret (by decide +kernel) rfl rfl hF

set_option maxHeartbeats 1000000 in
theorem wpX12_readOathWord {Γ : Cfg} {l : Launch} {d b : Nat} {g : GG} {K : Ou → HP → Prop} {x1 : Int} {x2 : Int} (hF : (okP x1 0) ∧ ((¬ wr x2 = 8 → (¬ wr x2 = 9 → AW Γ l mX12_readOathWord (d + 2) b 33 [vR 171, vI x1, vI x2, vI (ofP g x1 0), vU] [vI 0, vI (g 171 16), vR 171] (stt g) K) ∧ (¬ (¬ wr x2 = 9) → AW Γ l mX12_readOathWord (d + 2) b 33 [vR 171, vI x1, vI x2, vI (ofP g x1 0), vU] [vI (-1), vI (g 171 16), vR 171] (stt g) K)) ∧ (¬ (¬ wr x2 = 8) → AW Γ l mX12_readOathWord (d + 2) b 33 [vR 171, vI x1, vI x2, vI (ofP g x1 0), vU] [vI 1, vI (g 171 16), vR 171] (stt g) K))) : Ct Γ l (d + 2) b yX12_readOathWord mX12_readOathWord [vR 171, vI x1, vI x2] (stt g) K := by
  refine Ct.enter (L := [vR 171, vI x1, vI x2, vU, vU]) rfl rfl rfl (by decide +kernel) (by simp [oneSlot]) (Nat.le_of_ble_eq_true rfl) rfl ?_
  refine aw_aload_n (k' := 0) (by decide +kernel) rfl ?_
  refine aw_iload_n (k' := 1) (by decide +kernel) rfl ?_
  refine aw_iconst (n := 0) (by decide +kernel) ?_
  refine aw_callV (y := yX12_of) (M2 := mX12_of) (as := [vI x1, vI 0]) (S := []) (t := 171) (d2 := (d + 1)) (b2 := 0) (b3 := b) cwX12_of mlX12_84 imX12_of seX12_of (by decide +kernel) rfl (ci := 10) rfl (OB.at (ci := 10) (show shp 171 = (20, 0) by decide +kernel) (by decide)) (Nat.le_refl _) (Nat.le_of_eq (Nat.zero_add _)) rfl rfl (by simp [oneSlot]) (Nat.le_of_ble_eq_true rfl) (c_of hF.1 ?_)
  show AW Γ l mX12_readOathWord (d + 2) b 6 [vR 171, vI x1, vI x2, vU, vU] [vI (ofP g x1 0)] (stt g) K
  replace hF := hF.2
  refine aw_istore_n (k' := 3) (by decide +kernel) (by decide) ?_
  show AW Γ l mX12_readOathWord (d + 2) b 7 [vR 171, vI x1, vI x2, vI (ofP g x1 0), vU] [] (stt g) K
  refine aw_aload_n (k' := 0) (by decide +kernel) rfl ?_
  refine aw_dup (by decide +kernel) trivial ?_
  refine gfX12_158 rfl (by decide +kernel) (OB.at (ci := 10) (show shp 171 = (20, 0) by decide +kernel) (by decide)) ?_
  refine aw_iload_n (k' := 2) (by decide +kernel) rfl ?_
  refine aw_bipush (n := 8) (by decide +kernel) (by decide +kernel) ?_
  refine ax_icmp_ne (off := 7) (tgt := 22) (x' := wr x2) (y' := 8) (by decide +kernel) (by decide) rfl (by decide +kernel) (fun hc => ?_) (fun hc => ?_)
  · have hF := hF.1 hc
    refine aw_iload_n (k' := 2) (by decide +kernel) rfl ?_
    refine aw_bipush (n := 9) (by decide +kernel) (by decide +kernel) ?_
    refine ax_icmp_ne (off := 7) (tgt := 32) (x' := wr x2) (y' := 9) (by decide +kernel) (by decide) rfl (by decide +kernel) (fun hc => ?_) (fun hc => ?_)
    · have hF := hF.1 hc
      refine aw_iconst (n := 0) (by decide +kernel) ?_
      exact hF
    · have hF := hF.2 hc
      refine aw_iconst (n := -1) (by decide +kernel) ?_
      refine aw_goto (off := 4) (tgt := 33) (by decide +kernel) (by decide) ?_
      exact hF
  · have hF := hF.2 hc
    refine aw_iconst (n := 1) (by decide +kernel) ?_
    refine aw_goto (off := 14) (tgt := 33) (by decide +kernel) (by decide) ?_
    exact hF
set_option maxHeartbeats 1000000 in
theorem wpX12_readOathWord_33 {Γ : Cfg} {l : Launch} {d b : Nat} {g : GG} {K : Ou → HP → Prop} {x1 : Int} {x2 : Int} {y3 : Int} {s0 : Int} {s1 : Int} (hF : (wr y3 = 12 → AW Γ l mX12_readOathWord (d + 2) b 55 [vR 171, vI x1, vI x2, vI y3, vU] [] (stt (upd2 g 171 16 (s1 + s0))) K) ∧ (¬ (wr y3 = 12) → (0 ≤ wr ((upd2 g 171 16 (s1 + s0)) 171 16) ∧ wr ((upd2 g 171 16 (s1 + s0)) 171 16) ≤ 3 → Ct Γ l (d + 1) 0 yX12_hasNumber mX12_hasNumber [vI x2] (stt (upd2 g 171 16 (s1 + s0))) (bI (fun v1 g1 => (wr v1 = 0 → AW Γ l mX12_readOathWord (d + 2) b 75 [vR 171, vI x1, vI x2, vI y3, vU] [vI 0] (stt g1) K) ∧ (¬ (wr v1 = 0) → Ct Γ l (d + 1) 0 yX12_number mX12_number [vR 171, vI 0, vI 9] (stt g1) (bI (fun v2 g2 => AW Γ l mX12_readOathWord (d + 2) b 75 [vR 171, vI x1, vI x2, vI y3, vU] [vI v2] (stt g2) K) K))) K)) ∧ (¬ (0 ≤ wr ((upd2 g 171 16 (s1 + s0)) 171 16) ∧ wr ((upd2 g 171 16 (s1 + s0)) 171 16) ≤ 3) → AW Γ l mX12_readOathWord (d + 2) b 55 [vR 171, vI x1, vI x2, vI y3, vU] [] (stt (upd2 g 171 16 (s1 + s0))) K))) : AW Γ l mX12_readOathWord (d + 2) b 33 [vR 171, vI x1, vI x2, vI y3, vU] [vI s0, vI s1, vR 171] (stt g) K := by
  refine aw_iadd (by decide +kernel) ?_
  refine pfX12_158 rfl (by decide +kernel) (OB.at (ci := 10) (show shp 171 = (20, 0) by decide +kernel) (by decide)) ?_
  show AW Γ l mX12_readOathWord (d + 2) b 37 [vR 171, vI x1, vI x2, vI y3, vU] [] (stt (upd2 g 171 16 (s1 + s0))) K
  refine aw_iload_n (k' := 3) (by decide +kernel) rfl ?_
  refine aw_bipush (n := 12) (by decide +kernel) (by decide +kernel) ?_
  refine ax_icmp_eq (off := 15) (tgt := 55) (x' := wr y3) (y' := 12) (by decide +kernel) (by decide) rfl (by decide +kernel) (fun hc => ?_) (fun hc => ?_)
  · have hF := hF.1 hc
    exact hF
  · have hF := hF.2 hc
    refine aw_aload_n (k' := 0) (by decide +kernel) rfl ?_
    refine gfX12_158 rfl (by decide +kernel) (OB.at (ci := 10) (show shp 171 = (20, 0) by decide +kernel) (by decide)) ?_
    refine aw_iconst (n := 0) (by decide +kernel) ?_
    refine aw_iconst (n := 3) (by decide +kernel) ?_
    refine aw_callS (y := yX12_in) (M2 := mX12_in) (as := [vI ((upd2 g 171 16 (s1 + s0)) 171 16), vI 0, vI 3]) (S := []) (d2 := (d + 1)) (b2 := 0) (b3 := b) cwX12_in mlX12_91 stX12_in (by decide +kernel) rfl (Nat.le_refl _) (Nat.le_of_eq (Nat.zero_add _)) rfl rfl (by simp [oneSlot]) (Nat.le_of_ble_eq_true rfl) (c_in (x' := wr ((upd2 g 171 16 (s1 + s0)) 171 16)) (y' := 0) (z' := 3) rfl (by decide +kernel) (by decide +kernel) (fun hc => ?_) (fun hc => ?_))
    · have hF := hF.1 hc
      show AW Γ l mX12_readOathWord (d + 2) b 52 [vR 171, vI x1, vI x2, vI y3, vU] [vI 1] (stt (upd2 g 171 16 (s1 + s0))) K
      refine ax_if_ne (off := 5) (tgt := 57) (x' := 1) (by decide +kernel) (by decide) (by decide +kernel) (fun hc => ?_) (fun hc => absurd (by decide) hc)
      refine aw_iload_n (k' := 2) (by decide +kernel) rfl ?_
      refine aw_callS (y := yX12_hasNumber) (M2 := mX12_hasNumber) (as := [vI x2]) (S := []) (d2 := (d + 1)) (b2 := 0) (b3 := b) cwX12_hasNumber mlX12_161 stX12_hasNumber (by decide +kernel) rfl (Nat.le_refl _) (Nat.le_of_eq (Nat.zero_add _)) rfl rfl (by simp [oneSlot]) (Nat.le_of_ble_eq_true rfl) (Ct.mono hF ?_)
      rintro o h' (⟨v1, g1, rfl, rfl, hG⟩ | ⟨E, g, rfl, rfl, hG⟩)
      · show AW Γ l mX12_readOathWord (d + 2) b 61 [vR 171, vI x1, vI x2, vI y3, vU] [vI v1] (stt g1) K
        refine ax_if_eq (off := 13) (tgt := 74) (x' := wr v1) (by decide +kernel) (by decide) rfl (fun hc => ?_) (fun hc => ?_)
        · have hG := hG.1 hc
          refine aw_iconst (n := 0) (by decide +kernel) ?_
          exact hG
        · have hG := hG.2 hc
          refine aw_aload_n (k' := 0) (by decide +kernel) rfl ?_
          refine aw_iconst (n := 0) (by decide +kernel) ?_
          refine aw_bipush (n := 9) (by decide +kernel) (by decide +kernel) ?_
          refine aw_callV (y := yX12_number) (M2 := mX12_number) (as := [vI 0, vI 9]) (S := []) (t := 171) (d2 := (d + 1)) (b2 := 0) (b3 := b) cwX12_number mlX12_134 imX12_number seX12_number (by decide +kernel) rfl (ci := 10) rfl (OB.at (ci := 10) (show shp 171 = (20, 0) by decide +kernel) (by decide)) (Nat.le_refl _) (Nat.le_of_eq (Nat.zero_add _)) rfl rfl (by simp [oneSlot]) (Nat.le_of_ble_eq_true rfl) (Ct.mono hG ?_)
          rintro o h' (⟨v2, g2, rfl, rfl, hG⟩ | ⟨E, g, rfl, rfl, hG⟩)
          · show AW Γ l mX12_readOathWord (d + 2) b 71 [vR 171, vI x1, vI x2, vI y3, vU] [vI v2] (stt g2) K
            refine aw_goto (off := 4) (tgt := 75) (by decide +kernel) (by decide) ?_
            exact hG
          · exact hG
      · exact hG
    · have hF := hF.2 hc
      show AW Γ l mX12_readOathWord (d + 2) b 52 [vR 171, vI x1, vI x2, vI y3, vU] [vI 0] (stt (upd2 g 171 16 (s1 + s0))) K
      refine ax_if_ne (off := 5) (tgt := 57) (x' := 0) (by decide +kernel) (by decide) (by decide +kernel) (fun hc => absurd hc (by decide)) (fun hc => ?_)
      exact hF
set_option maxHeartbeats 1000000 in
theorem wpX12_readOathWord_55 {Γ : Cfg} {l : Launch} {d b : Nat} {g : GG} {K : Ou → HP → Prop} {x1 : Int} {x2 : Int} {y3 : Int} (hF : K (.inl (vI 0)) (stt g)) : AW Γ l mX12_readOathWord (d + 2) b 55 [vR 171, vI x1, vI x2, vI y3, vU] [] (stt g) K := by
  refine aw_iconst (n := 0) (by decide +kernel) ?_
  exact aw_zret (by decide +kernel) rfl rfl hF
set_option maxHeartbeats 1000000 in
theorem wpX12_readOathWord_75 {Γ : Cfg} {l : Launch} {d b : Nat} {g : GG} {K : Ou → HP → Prop} {x1 : Int} {x2 : Int} {y3 : Int} {s0 : Int} (hF : (0 ≤ wr s0 → (0 ≤ wr (12 + 29 * x1 + (5 + (2 * y3))) ∧ wr (12 + 29 * x1 + (5 + (2 * y3))) < 2184) ∧ (∀ g1 : GG, g1 = upd2 g 172 (wr (12 + 29 * x1 + (5 + (2 * y3)))) x2 → (0 ≤ wr (12 + 29 * x1 + ((5 + (2 * y3)) + 1)) ∧ wr (12 + 29 * x1 + ((5 + (2 * y3)) + 1)) < 2184) ∧ (∀ g2 : GG, g2 = upd2 g1 172 (wr (12 + 29 * x1 + ((5 + (2 * y3)) + 1))) s0 → (0 ≤ wr (12 + 29 * x1 + 0) ∧ wr (12 + 29 * x1 + 0) < 2184) ∧ ((0 ≤ wr (12 + 29 * x1 + 0) ∧ wr (12 + 29 * x1 + 0) < 2184) ∧ (∀ g3 : GG, g3 = upd2 g2 172 (wr (12 + 29 * x1 + 0)) ((g2 172 (wr (12 + 29 * x1 + 0))) + 1) → K (.inl (vI 1)) (stt g3)))))) ∧ (¬ (0 ≤ wr s0) → K (.inl (vI 0)) (stt g))) : AW Γ l mX12_readOathWord (d + 2) b 75 [vR 171, vI x1, vI x2, vI y3, vU] [vI s0] (stt g) K := by
  refine aw_istore (i := 4) (by decide +kernel) (by decide) ?_
  show AW Γ l mX12_readOathWord (d + 2) b 77 [vR 171, vI x1, vI x2, vI y3, vI s0] [] (stt g) K
  refine aw_iload (i := 4) (by decide +kernel) rfl ?_
  refine ax_if_ge (off := 5) (tgt := 84) (x' := wr s0) (by decide +kernel) (by decide) rfl (fun hc => ?_) (fun hc => ?_)
  · have hF := hF.1 hc
    refine aw_aload_n (k' := 0) (by decide +kernel) rfl ?_
    refine gfX12_13 rfl (by decide +kernel) (OB.at (ci := 10) (show shp 171 = (20, 0) by decide +kernel) (by decide)) ?_
    refine AW.topR (show RC 171 1 = 172 by decide +kernel) ?_
    refine aw_iload_n (k' := 1) (by decide +kernel) rfl ?_
    refine aw_iconst (n := 5) (by decide +kernel) ?_
    refine aw_iconst (n := 2) (by decide +kernel) ?_
    refine aw_iload_n (k' := 3) (by decide +kernel) rfl ?_
    refine aw_imul (by decide +kernel) ?_
    refine aw_iadd (by decide +kernel) ?_
    refine aw_callS (y := yX12_personAt) (M2 := mX12_personAt) (as := [vI x1, vI (5 + (2 * y3))]) (S := [vR 172]) (d2 := (d + 1)) (b2 := 0) (b3 := b) cwX12_personAt mlX12_80 stX12_personAt (by decide +kernel) rfl (Nat.le_refl _) (Nat.le_of_eq (Nat.zero_add _)) rfl rfl (by simp [oneSlot]) (Nat.le_of_ble_eq_true rfl) (c_personAt ?_)
    show AW Γ l mX12_readOathWord (d + 2) b 97 [vR 171, vI x1, vI x2, vI y3, vI s0] [vI (12 + 29 * x1 + (5 + (2 * y3))), vR 172] (stt g) K
    refine aw_iload_n (k' := 2) (by decide +kernel) rfl ?_
    refine ax_iast (i := wr (12 + 29 * x1 + (5 + (2 * y3)))) (by decide +kernel) (isA_lit (show shp 172 = (0, 2184) by decide +kernel) (by decide)) rfl hF.1 ?_
    show AW Γ l mX12_readOathWord (d + 2) b 99 [vR 171, vI x1, vI x2, vI y3, vI s0] [] (stt (upd2 g 172 (wr (12 + 29 * x1 + (5 + (2 * y3)))) x2)) K
    replace hF := hF.2
    show AW Γ l mX12_readOathWord (d + 2) b 99 [vR 171, vI x1, vI x2, vI y3, vI s0] [] (stt (upd2 g 172 (wr (12 + 29 * x1 + (5 + (2 * y3)))) x2)) K
    generalize eg1 : upd2 g 172 (wr (12 + 29 * x1 + (5 + (2 * y3)))) x2 = g1
    replace hF := hF g1 eg1.symm
    refine aw_aload_n (k' := 0) (by decide +kernel) rfl ?_
    refine gfX12_13 rfl (by decide +kernel) (OB.at (ci := 10) (show shp 171 = (20, 0) by decide +kernel) (by decide)) ?_
    refine AW.topR (show RC 171 1 = 172 by decide +kernel) ?_
    refine aw_iload_n (k' := 1) (by decide +kernel) rfl ?_
    refine aw_iconst (n := 5) (by decide +kernel) ?_
    refine aw_iconst (n := 2) (by decide +kernel) ?_
    refine aw_iload_n (k' := 3) (by decide +kernel) rfl ?_
    refine aw_imul (by decide +kernel) ?_
    refine aw_iadd (by decide +kernel) ?_
    refine aw_iconst (n := 1) (by decide +kernel) ?_
    refine aw_iadd (by decide +kernel) ?_
    refine aw_callS (y := yX12_personAt) (M2 := mX12_personAt) (as := [vI x1, vI ((5 + (2 * y3)) + 1)]) (S := [vR 172]) (d2 := (d + 1)) (b2 := 0) (b3 := b) cwX12_personAt mlX12_80 stX12_personAt (by decide +kernel) rfl (Nat.le_refl _) (Nat.le_of_eq (Nat.zero_add _)) rfl rfl (by simp [oneSlot]) (Nat.le_of_ble_eq_true rfl) (c_personAt ?_)
    show AW Γ l mX12_readOathWord (d + 2) b 114 [vR 171, vI x1, vI x2, vI y3, vI s0] [vI (12 + 29 * x1 + ((5 + (2 * y3)) + 1)), vR 172] (stt g1) K
    refine aw_iload (i := 4) (by decide +kernel) rfl ?_
    refine ax_iast (i := wr (12 + 29 * x1 + ((5 + (2 * y3)) + 1))) (by decide +kernel) (isA_lit (show shp 172 = (0, 2184) by decide +kernel) (by decide)) rfl hF.1 ?_
    show AW Γ l mX12_readOathWord (d + 2) b 117 [vR 171, vI x1, vI x2, vI y3, vI s0] [] (stt (upd2 g1 172 (wr (12 + 29 * x1 + ((5 + (2 * y3)) + 1))) s0)) K
    replace hF := hF.2
    show AW Γ l mX12_readOathWord (d + 2) b 117 [vR 171, vI x1, vI x2, vI y3, vI s0] [] (stt (upd2 g1 172 (wr (12 + 29 * x1 + ((5 + (2 * y3)) + 1))) s0)) K
    generalize eg2 : upd2 g1 172 (wr (12 + 29 * x1 + ((5 + (2 * y3)) + 1))) s0 = g2
    replace hF := hF g2 eg2.symm
    refine aw_aload_n (k' := 0) (by decide +kernel) rfl ?_
    refine gfX12_13 rfl (by decide +kernel) (OB.at (ci := 10) (show shp 171 = (20, 0) by decide +kernel) (by decide)) ?_
    refine AW.topR (show RC 171 1 = 172 by decide +kernel) ?_
    refine aw_iload_n (k' := 1) (by decide +kernel) rfl ?_
    refine aw_iconst (n := 0) (by decide +kernel) ?_
    refine aw_callS (y := yX12_personAt) (M2 := mX12_personAt) (as := [vI x1, vI 0]) (S := [vR 172]) (d2 := (d + 1)) (b2 := 0) (b3 := b) cwX12_personAt mlX12_80 stX12_personAt (by decide +kernel) rfl (Nat.le_refl _) (Nat.le_of_eq (Nat.zero_add _)) rfl rfl (by simp [oneSlot]) (Nat.le_of_ble_eq_true rfl) (c_personAt ?_)
    show AW Γ l mX12_readOathWord (d + 2) b 126 [vR 171, vI x1, vI x2, vI y3, vI s0] [vI (12 + 29 * x1 + 0), vR 172] (stt g2) K
    refine aw_dup2 (by decide +kernel) trivial trivial ?_
    refine ax_iald (i := wr (12 + 29 * x1 + 0)) (by decide +kernel) (isA_lit (show shp 172 = (0, 2184) by decide +kernel) (by decide)) rfl hF.1 ?_
    replace hF := hF.2
    refine aw_iconst (n := 1) (by decide +kernel) ?_
    refine aw_iadd (by decide +kernel) ?_
    refine ax_iast (i := wr (12 + 29 * x1 + 0)) (by decide +kernel) (isA_lit (show shp 172 = (0, 2184) by decide +kernel) (by decide)) rfl hF.1 ?_
    show AW Γ l mX12_readOathWord (d + 2) b 131 [vR 171, vI x1, vI x2, vI y3, vI s0] [] (stt (upd2 g2 172 (wr (12 + 29 * x1 + 0)) ((g2 172 (wr (12 + 29 * x1 + 0))) + 1))) K
    replace hF := hF.2
    show AW Γ l mX12_readOathWord (d + 2) b 131 [vR 171, vI x1, vI x2, vI y3, vI s0] [] (stt (upd2 g2 172 (wr (12 + 29 * x1 + 0)) ((g2 172 (wr (12 + 29 * x1 + 0))) + 1))) K
    generalize eg3 : upd2 g2 172 (wr (12 + 29 * x1 + 0)) ((g2 172 (wr (12 + 29 * x1 + 0))) + 1) = g3
    replace hF := hF g3 eg3.symm
    refine aw_iconst (n := 1) (by decide +kernel) ?_
    exact aw_zret (by decide +kernel) rfl rfl hF
  · have hF := hF.2 hc
    refine aw_iconst (n := 0) (by decide +kernel) ?_
    exact aw_zret (by decide +kernel) rfl rfl hF

set_option maxHeartbeats 1000000 in
theorem wpX12_readOath {Γ : Cfg} {l : Launch} {d b : Nat} {g : GG} {K : Ou → HP → Prop} {x1 : Int} (hF : Ct Γ l d 0 yX12_letters mX12_letters [vR 171] (stt (upd2 g 171 16 0)) (bV (fun g1 => Ct Γ l d 0 yX12_kindRead mX12_kindRead [vR 171] (stt g1) (bI (fun v1 g2 => (0 ≤ wr v1 → AW Γ l mX12_readOath (d + 1) b 20 [vR 171, vI x1, vI v1] [] (stt g2) K) ∧ (¬ (0 ≤ wr v1) → K (.inl (vI 0)) (stt g2))) K)) K)) : Ct Γ l (d + 1) b yX12_readOath mX12_readOath [vR 171, vI x1] (stt g) K := by
  refine Ct.enter (L := [vR 171, vI x1, vU]) rfl rfl rfl (by decide +kernel) (by simp [oneSlot]) (Nat.le_of_ble_eq_true rfl) rfl ?_
  refine aw_aload_n (k' := 0) (by decide +kernel) rfl ?_
  refine aw_iconst (n := 0) (by decide +kernel) ?_
  refine pfX12_158 rfl (by decide +kernel) (OB.at (ci := 10) (show shp 171 = (20, 0) by decide +kernel) (by decide)) ?_
  show AW Γ l mX12_readOath (d + 1) b 5 [vR 171, vI x1, vU] [] (stt (upd2 g 171 16 0)) K
  refine aw_aload_n (k' := 0) (by decide +kernel) rfl ?_
  refine aw_callV (y := yX12_letters) (M2 := mX12_letters) (as := []) (S := []) (t := 171) (d2 := d) (b2 := 0) (b3 := b) cwX12_letters mlX12_124 imX12_letters seX12_letters (by decide +kernel) rfl (ci := 10) rfl (OB.at (ci := 10) (show shp 171 = (20, 0) by decide +kernel) (by decide)) (Nat.le_refl _) (Nat.le_of_eq (Nat.zero_add _)) rfl rfl (by simp [oneSlot]) (Nat.le_of_ble_eq_true rfl) (Ct.mono hF ?_)
  rintro o h' (⟨g1, rfl, rfl, hG⟩ | ⟨E, g, rfl, rfl, hG⟩)
  · show AW Γ l mX12_readOath (d + 1) b 9 [vR 171, vI x1, vU] [] (stt g1) K
    refine aw_aload_n (k' := 0) (by decide +kernel) rfl ?_
    refine aw_callV (y := yX12_kindRead) (M2 := mX12_kindRead) (as := []) (S := []) (t := 171) (d2 := d) (b2 := 0) (b3 := b) cwX12_kindRead mlX12_165 imX12_kindRead seX12_kindRead (by decide +kernel) rfl (ci := 10) rfl (OB.at (ci := 10) (show shp 171 = (20, 0) by decide +kernel) (by decide)) (Nat.le_refl _) (Nat.le_of_eq (Nat.zero_add _)) rfl rfl (by simp [oneSlot]) (Nat.le_of_ble_eq_true rfl) (Ct.mono hG ?_)
    rintro o h' (⟨v1, g2, rfl, rfl, hG⟩ | ⟨E, g, rfl, rfl, hG⟩)
    · show AW Γ l mX12_readOath (d + 1) b 13 [vR 171, vI x1, vU] [vI v1] (stt g2) K
      refine aw_istore_n (k' := 2) (by decide +kernel) (by decide) ?_
      show AW Γ l mX12_readOath (d + 1) b 14 [vR 171, vI x1, vI v1] [] (stt g2) K
      refine aw_iload_n (k' := 2) (by decide +kernel) rfl ?_
      refine ax_if_ge (off := 5) (tgt := 20) (x' := wr v1) (by decide +kernel) (by decide) rfl (fun hc => ?_) (fun hc => ?_)
      · have hG := hG.1 hc
        exact hG
      · have hG := hG.2 hc
        refine aw_iconst (n := 0) (by decide +kernel) ?_
        exact aw_zret (by decide +kernel) rfl rfl hG
    · exact hG
  · exact hG
set_option maxHeartbeats 1000000 in
theorem wpX12_readOath_20 {Γ : Cfg} {l : Launch} {d b : Nat} {g : GG} {K : Ou → HP → Prop} {x1 : Int} {y2 : Int} (hF : (wr y2 < 0 → (¬ wr ((upd2 g 171 10 (g 171 12)) 171 16) = 0 → K (.inl (vI 0)) (stt (upd2 g 171 10 (g 171 12)))) ∧ (¬ (¬ wr ((upd2 g 171 10 (g 171 12)) 171 16) = 0) → K (.inl (vI 1)) (stt (upd2 g 171 10 (g 171 12))))) ∧ (¬ (wr y2 < 0) → Ct Γ l d 0 yX12_readOathWord mX12_readOathWord [vR 171, vI x1, vI y2] (stt g) (bI (fun v1 g1 => (¬ wr v1 = 0 → Ct Γ l d 0 yX12_letters mX12_letters [vR 171] (stt g1) (bV (fun g2 => Ct Γ l d 0 yX12_kindRead mX12_kindRead [vR 171] (stt g2) (bI (fun v2 g3 => AW Γ l mX12_readOath (d + 1) b 20 [vR 171, vI x1, vI v2] [] (stt g3) K) K)) K)) ∧ (¬ (¬ wr v1 = 0) → K (.inl (vI 0)) (stt g1))) K))) : AW Γ l mX12_readOath (d + 1) b 20 [vR 171, vI x1, vI y2] [] (stt g) K := by
  refine aw_iload_n (k' := 2) (by decide +kernel) rfl ?_
  refine ax_if_lt (off := 26) (tgt := 47) (x' := wr y2) (by decide +kernel) (by decide) rfl (fun hc => ?_) (fun hc => ?_)
  · have hF := hF.1 hc
    refine aw_aload_n (k' := 0) (by decide +kernel) rfl ?_
    refine aw_aload_n (k' := 0) (by decide +kernel) rfl ?_
    refine gfX12_109 rfl (by decide +kernel) (OB.at (ci := 10) (show shp 171 = (20, 0) by decide +kernel) (by decide)) ?_
    refine pfX12_99 rfl (by decide +kernel) (OB.at (ci := 10) (show shp 171 = (20, 0) by decide +kernel) (by decide)) ?_
    show AW Γ l mX12_readOath (d + 1) b 55 [vR 171, vI x1, vI y2] [] (stt (upd2 g 171 10 (g 171 12))) K
    refine aw_aload_n (k' := 0) (by decide +kernel) rfl ?_
    refine gfX12_158 rfl (by decide +kernel) (OB.at (ci := 10) (show shp 171 = (20, 0) by decide +kernel) (by decide)) ?_
    refine ax_if_ne (off := 7) (tgt := 66) (x' := wr ((upd2 g 171 10 (g 171 12)) 171 16)) (by decide +kernel) (by decide) rfl (fun hc => ?_) (fun hc => ?_)
    · have hF := hF.1 hc
      refine aw_iconst (n := 0) (by decide +kernel) ?_
      exact aw_zret (by decide +kernel) rfl rfl hF
    · have hF := hF.2 hc
      refine aw_iconst (n := 1) (by decide +kernel) ?_
      refine aw_goto (off := 4) (tgt := 67) (by decide +kernel) (by decide) ?_
      exact aw_zret (by decide +kernel) rfl rfl hF
  · have hF := hF.2 hc
    refine aw_aload_n (k' := 0) (by decide +kernel) rfl ?_
    refine aw_iload_n (k' := 1) (by decide +kernel) rfl ?_
    refine aw_iload_n (k' := 2) (by decide +kernel) rfl ?_
    refine aw_callV (y := yX12_readOathWord) (M2 := mX12_readOathWord) (as := [vI x1, vI y2]) (S := []) (t := 171) (d2 := d) (b2 := 0) (b3 := b) cwX12_readOathWord mlX12_168 imX12_readOathWord seX12_readOathWord (by decide +kernel) rfl (ci := 10) rfl (OB.at (ci := 10) (show shp 171 = (20, 0) by decide +kernel) (by decide)) (Nat.le_refl _) (Nat.le_of_eq (Nat.zero_add _)) rfl rfl (by simp [oneSlot]) (Nat.le_of_ble_eq_true rfl) (Ct.mono hF ?_)
    rintro o h' (⟨v1, g1, rfl, rfl, hG⟩ | ⟨E, g, rfl, rfl, hG⟩)
    · show AW Γ l mX12_readOath (d + 1) b 30 [vR 171, vI x1, vI y2] [vI v1] (stt g1) K
      refine ax_if_ne (off := 5) (tgt := 35) (x' := wr v1) (by decide +kernel) (by decide) rfl (fun hc => ?_) (fun hc => ?_)
      · have hG := hG.1 hc
        refine aw_aload_n (k' := 0) (by decide +kernel) rfl ?_
        refine aw_callV (y := yX12_letters) (M2 := mX12_letters) (as := []) (S := []) (t := 171) (d2 := d) (b2 := 0) (b3 := b) cwX12_letters mlX12_124 imX12_letters seX12_letters (by decide +kernel) rfl (ci := 10) rfl (OB.at (ci := 10) (show shp 171 = (20, 0) by decide +kernel) (by decide)) (Nat.le_refl _) (Nat.le_of_eq (Nat.zero_add _)) rfl rfl (by simp [oneSlot]) (Nat.le_of_ble_eq_true rfl) (Ct.mono hG ?_)
        rintro o h' (⟨g2, rfl, rfl, hG⟩ | ⟨E, g, rfl, rfl, hG⟩)
        · show AW Γ l mX12_readOath (d + 1) b 39 [vR 171, vI x1, vI y2] [] (stt g2) K
          refine aw_aload_n (k' := 0) (by decide +kernel) rfl ?_
          refine aw_callV (y := yX12_kindRead) (M2 := mX12_kindRead) (as := []) (S := []) (t := 171) (d2 := d) (b2 := 0) (b3 := b) cwX12_kindRead mlX12_165 imX12_kindRead seX12_kindRead (by decide +kernel) rfl (ci := 10) rfl (OB.at (ci := 10) (show shp 171 = (20, 0) by decide +kernel) (by decide)) (Nat.le_refl _) (Nat.le_of_eq (Nat.zero_add _)) rfl rfl (by simp [oneSlot]) (Nat.le_of_ble_eq_true rfl) (Ct.mono hG ?_)
          rintro o h' (⟨v2, g3, rfl, rfl, hG⟩ | ⟨E, g, rfl, rfl, hG⟩)
          · show AW Γ l mX12_readOath (d + 1) b 43 [vR 171, vI x1, vI y2] [vI v2] (stt g3) K
            refine aw_istore_n (k' := 2) (by decide +kernel) (by decide) ?_
            show AW Γ l mX12_readOath (d + 1) b 44 [vR 171, vI x1, vI v2] [] (stt g3) K
            refine aw_goto (off := -24) (tgt := 20) (by decide +kernel) (by decide) ?_
            exact hG
          · exact hG
        · exact hG
      · have hG := hG.2 hc
        refine aw_iconst (n := 0) (by decide +kernel) ?_
        exact aw_zret (by decide +kernel) rfl rfl hG
    · exact hG

set_option maxHeartbeats 1000000 in
theorem wpX12_readPerson {Γ : Cfg} {l : Launch} {d b : Nat} {g : GG} {K : Ou → HP → Prop}  (hF : (¬ wr (g 172 0) = 6 → AW Γ l mX12_readPerson (d + 1) b 15 [vR 171, vI (g 172 0), vI 0, vU] [] (stt g) K) ∧ (¬ (¬ wr (g 172 0) = 6) → K (.inl (vI 0)) (stt g))) : Ct Γ l (d + 1) b yX12_readPerson mX12_readPerson [vR 171] (stt g) K := by
  refine Ct.enter (L := [vR 171, vU, vU, vU]) rfl rfl rfl (by decide +kernel) (by simp [oneSlot]) (Nat.le_of_ble_eq_true rfl) rfl ?_
  refine aw_aload_n (k' := 0) (by decide +kernel) rfl ?_
  refine aw_callV (y := yX12_people) (M2 := mX12_people) (as := []) (S := []) (t := 171) (d2 := d) (b2 := 0) (b3 := b) cwX12_people mlX12_87 imX12_people seX12_people (by decide +kernel) rfl (ci := 10) rfl (OB.at (ci := 10) (show shp 171 = (20, 0) by decide +kernel) (by decide)) (Nat.le_refl _) (Nat.le_of_eq (Nat.zero_add _)) rfl rfl (by simp [oneSlot]) (Nat.le_of_ble_eq_true rfl) (c_people ?_)
  show AW Γ l mX12_readPerson (d + 1) b 4 [vR 171, vU, vU, vU] [vI (g 172 0)] (stt g) K
  refine aw_istore_n (k' := 1) (by decide +kernel) (by decide) ?_
  show AW Γ l mX12_readPerson (d + 1) b 5 [vR 171, vI (g 172 0), vU, vU] [] (stt g) K
  refine aw_iload_n (k' := 1) (by decide +kernel) rfl ?_
  refine aw_bipush (n := 6) (by decide +kernel) (by decide +kernel) ?_
  refine ax_icmp_ne (off := 5) (tgt := 13) (x' := wr (g 172 0)) (y' := 6) (by decide +kernel) (by decide) rfl (by decide +kernel) (fun hc => ?_) (fun hc => ?_)
  · have hF := hF.1 hc
    refine aw_iconst (n := 0) (by decide +kernel) ?_
    refine aw_istore_n (k' := 2) (by decide +kernel) (by decide) ?_
    show AW Γ l mX12_readPerson (d + 1) b 15 [vR 171, vI (g 172 0), vI 0, vU] [] (stt g) K
    exact hF
  · have hF := hF.2 hc
    refine aw_iconst (n := 0) (by decide +kernel) ?_
    exact aw_zret (by decide +kernel) rfl rfl hF
set_option maxHeartbeats 1000000 in
theorem wpX12_readPerson_15 {Γ : Cfg} {l : Launch} {d b : Nat} {g : GG} {K : Ou → HP → Prop} {y1 : Int} {y2 : Int} (hF : (29 ≤ wr y2 → Ct Γ l d 0 yX12_readOath mX12_readOath [vR 171, vI y1] (stt g) (bI (fun v1 g1 => (¬ wr v1 = 0 → Ct Γ l d 0 yX12_told mX12_told [vR 171, vR 2027, vI 1, vI 9, vI 1] (stt g1) (bI (fun v2 g2 => (¬ wr v2 = 1000000 → Ct Γ l d 0 yX12_told mX12_told [vR 171, vR 2028, vI 0, vI 9, vI 0] (stt g2) (bI (fun v3 g3 => (¬ wr v3 = 1000000 → (0 ≤ wr (12 + 29 * y1 + 1) ∧ wr (12 + 29 * y1 + 1) < 2184) ∧ (∀ g4 : GG, g4 = upd2 g3 172 (wr (12 + 29 * y1 + 1)) v2 → (0 ≤ wr (12 + 29 * y1 + 2) ∧ wr (12 + 29 * y1 + 2) < 2184) ∧ (∀ g5 : GG, g5 = upd2 g4 172 (wr (12 + 29 * y1 + 2)) v3 → K (.inl (vI 1)) (stt (upd2 g5 172 0 ((g5 172 0) + 1)))))) ∧ (¬ (¬ wr v3 = 1000000) → K (.inl (vI 0)) (stt g3))) K)) ∧ (¬ (¬ wr v2 = 1000000) → K (.inl (vI 0)) (stt g2))) K)) ∧ (¬ (¬ wr v1 = 0) → K (.inl (vI 0)) (stt g1))) K)) ∧ (¬ (29 ≤ wr y2) → (0 ≤ wr (12 + 29 * y1 + y2) ∧ wr (12 + 29 * y1 + y2) < 2184) ∧ (∀ g6 : GG, g6 = upd2 g 172 (wr (12 + 29 * y1 + y2)) 0 → AW Γ l mX12_readPerson (d + 1) b 15 [vR 171, vI y1, vI (y2 + 1), vU] [] (stt g6) K))) : AW Γ l mX12_readPerson (d + 1) b 15 [vR 171, vI y1, vI y2, vU] [] (stt g) K := by
  refine aw_iload_n (k' := 2) (by decide +kernel) rfl ?_
  refine aw_bipush (n := 29) (by decide +kernel) (by decide +kernel) ?_
  refine ax_icmp_ge (off := 20) (tgt := 38) (x' := wr y2) (y' := 29) (by decide +kernel) (by decide) rfl (by decide +kernel) (fun hc => ?_) (fun hc => ?_)
  · have hF := hF.1 hc
    refine aw_aload_n (k' := 0) (by decide +kernel) rfl ?_
    refine aw_iload_n (k' := 1) (by decide +kernel) rfl ?_
    refine aw_callV (y := yX12_readOath) (M2 := mX12_readOath) (as := [vI y1]) (S := []) (t := 171) (d2 := d) (b2 := 0) (b3 := b) cwX12_readOath mlX12_171 imX12_readOath seX12_readOath (by decide +kernel) rfl (ci := 10) rfl (OB.at (ci := 10) (show shp 171 = (20, 0) by decide +kernel) (by decide)) (Nat.le_refl _) (Nat.le_of_eq (Nat.zero_add _)) rfl rfl (by simp [oneSlot]) (Nat.le_of_ble_eq_true rfl) (Ct.mono hF ?_)
    rintro o h' (⟨v1, g1, rfl, rfl, hG⟩ | ⟨E, g, rfl, rfl, hG⟩)
    · show AW Γ l mX12_readPerson (d + 1) b 43 [vR 171, vI y1, vI y2, vU] [vI v1] (stt g1) K
      refine ax_if_ne (off := 5) (tgt := 48) (x' := wr v1) (by decide +kernel) (by decide) rfl (fun hc => ?_) (fun hc => ?_)
      · have hG := hG.1 hc
        refine aw_aload_n (k' := 0) (by decide +kernel) rfl ?_
        refine aw_ldcS (idx := 174) (i := 27) (r := 2027) (by decide +kernel) (by decide) (by decide) (by decide +kernel) ?_
        refine aw_iconst (n := 1) (by decide +kernel) ?_
        refine aw_bipush (n := 9) (by decide +kernel) (by decide +kernel) ?_
        refine aw_iconst (n := 1) (by decide +kernel) ?_
        refine aw_callV (y := yX12_told) (M2 := mX12_told) (as := [vR 2027, vI 1, vI 9, vI 1]) (S := []) (t := 171) (d2 := d) (b2 := 0) (b3 := b) cwX12_told mlX12_176 imX12_told seX12_told (by decide +kernel) rfl (ci := 10) rfl (OB.at (ci := 10) (show shp 171 = (20, 0) by decide +kernel) (by decide)) (Nat.le_refl _) (Nat.le_of_eq (Nat.zero_add _)) rfl rfl (by simp [oneSlot]) (Nat.le_of_ble_eq_true rfl) (Ct.mono hG ?_)
        rintro o h' (⟨v2, g2, rfl, rfl, hG⟩ | ⟨E, g, rfl, rfl, hG⟩)
        · show AW Γ l mX12_readPerson (d + 1) b 58 [vR 171, vI y1, vI y2, vU] [vI v2] (stt g2) K
          refine aw_istore_n (k' := 2) (by decide +kernel) (by decide) ?_
          show AW Γ l mX12_readPerson (d + 1) b 59 [vR 171, vI y1, vI v2, vU] [] (stt g2) K
          refine aw_iload_n (k' := 2) (by decide +kernel) rfl ?_
          refine aw_ldc (idx := 137) (z := 1000000) (by decide +kernel) (tm7 115 (by decide +kernel) (by decide +kernel)) ?_
          refine ax_icmp_ne (off := 8) (tgt := 70) (x' := wr v2) (y' := 1000000) (by decide +kernel) (by decide) rfl (by decide +kernel) (fun hc => ?_) (fun hc => ?_)
          · have hG := hG.1 hc
            refine aw_aload_n (k' := 0) (by decide +kernel) rfl ?_
            refine aw_ldcS (idx := 180) (i := 28) (r := 2028) (by decide +kernel) (by decide) (by decide) (by decide +kernel) ?_
            refine aw_iconst (n := 0) (by decide +kernel) ?_
            refine aw_bipush (n := 9) (by decide +kernel) (by decide +kernel) ?_
            refine aw_iconst (n := 0) (by decide +kernel) ?_
            refine aw_callV (y := yX12_told) (M2 := mX12_told) (as := [vR 2028, vI 0, vI 9, vI 0]) (S := []) (t := 171) (d2 := d) (b2 := 0) (b3 := b) cwX12_told mlX12_176 imX12_told seX12_told (by decide +kernel) rfl (ci := 10) rfl (OB.at (ci := 10) (show shp 171 = (20, 0) by decide +kernel) (by decide)) (Nat.le_refl _) (Nat.le_of_eq (Nat.zero_add _)) rfl rfl (by simp [oneSlot]) (Nat.le_of_ble_eq_true rfl) (Ct.mono hG ?_)
            rintro o h' (⟨v3, g3, rfl, rfl, hG⟩ | ⟨E, g, rfl, rfl, hG⟩)
            · show AW Γ l mX12_readPerson (d + 1) b 80 [vR 171, vI y1, vI v2, vU] [vI v3] (stt g3) K
              refine aw_istore_n (k' := 3) (by decide +kernel) (by decide) ?_
              show AW Γ l mX12_readPerson (d + 1) b 81 [vR 171, vI y1, vI v2, vI v3] [] (stt g3) K
              refine aw_iload_n (k' := 3) (by decide +kernel) rfl ?_
              refine aw_ldc (idx := 137) (z := 1000000) (by decide +kernel) (tm7 115 (by decide +kernel) (by decide +kernel)) ?_
              refine ax_icmp_ne (off := 5) (tgt := 89) (x' := wr v3) (y' := 1000000) (by decide +kernel) (by decide) rfl (by decide +kernel) (fun hc => ?_) (fun hc => ?_)
              · have hG := hG.1 hc
                refine aw_aload_n (k' := 0) (by decide +kernel) rfl ?_
                refine gfX12_13 rfl (by decide +kernel) (OB.at (ci := 10) (show shp 171 = (20, 0) by decide +kernel) (by decide)) ?_
                refine AW.topR (show RC 171 1 = 172 by decide +kernel) ?_
                refine aw_iload_n (k' := 1) (by decide +kernel) rfl ?_
                refine aw_iconst (n := 1) (by decide +kernel) ?_
                refine aw_callS (y := yX12_personAt) (M2 := mX12_personAt) (as := [vI y1, vI 1]) (S := [vR 172]) (d2 := d) (b2 := 0) (b3 := b) cwX12_personAt mlX12_80 stX12_personAt (by decide +kernel) rfl (Nat.le_refl _) (Nat.le_of_eq (Nat.zero_add _)) rfl rfl (by simp [oneSlot]) (Nat.le_of_ble_eq_true rfl) (c_personAt ?_)
                show AW Γ l mX12_readPerson (d + 1) b 98 [vR 171, vI y1, vI v2, vI v3] [vI (12 + 29 * y1 + 1), vR 172] (stt g3) K
                refine aw_iload_n (k' := 2) (by decide +kernel) rfl ?_
                refine ax_iast (i := wr (12 + 29 * y1 + 1)) (by decide +kernel) (isA_lit (show shp 172 = (0, 2184) by decide +kernel) (by decide)) rfl hG.1 ?_
                show AW Γ l mX12_readPerson (d + 1) b 100 [vR 171, vI y1, vI v2, vI v3] [] (stt (upd2 g3 172 (wr (12 + 29 * y1 + 1)) v2)) K
                replace hG := hG.2
                show AW Γ l mX12_readPerson (d + 1) b 100 [vR 171, vI y1, vI v2, vI v3] [] (stt (upd2 g3 172 (wr (12 + 29 * y1 + 1)) v2)) K
                generalize eg4 : upd2 g3 172 (wr (12 + 29 * y1 + 1)) v2 = g4
                replace hG := hG g4 eg4.symm
                refine aw_aload_n (k' := 0) (by decide +kernel) rfl ?_
                refine gfX12_13 rfl (by decide +kernel) (OB.at (ci := 10) (show shp 171 = (20, 0) by decide +kernel) (by decide)) ?_
                refine AW.topR (show RC 171 1 = 172 by decide +kernel) ?_
                refine aw_iload_n (k' := 1) (by decide +kernel) rfl ?_
                refine aw_iconst (n := 2) (by decide +kernel) ?_
                refine aw_callS (y := yX12_personAt) (M2 := mX12_personAt) (as := [vI y1, vI 2]) (S := [vR 172]) (d2 := d) (b2 := 0) (b3 := b) cwX12_personAt mlX12_80 stX12_personAt (by decide +kernel) rfl (Nat.le_refl _) (Nat.le_of_eq (Nat.zero_add _)) rfl rfl (by simp [oneSlot]) (Nat.le_of_ble_eq_true rfl) (c_personAt ?_)
                show AW Γ l mX12_readPerson (d + 1) b 109 [vR 171, vI y1, vI v2, vI v3] [vI (12 + 29 * y1 + 2), vR 172] (stt g4) K
                refine aw_iload_n (k' := 3) (by decide +kernel) rfl ?_
                refine ax_iast (i := wr (12 + 29 * y1 + 2)) (by decide +kernel) (isA_lit (show shp 172 = (0, 2184) by decide +kernel) (by decide)) rfl hG.1 ?_
                show AW Γ l mX12_readPerson (d + 1) b 111 [vR 171, vI y1, vI v2, vI v3] [] (stt (upd2 g4 172 (wr (12 + 29 * y1 + 2)) v3)) K
                replace hG := hG.2
                show AW Γ l mX12_readPerson (d + 1) b 111 [vR 171, vI y1, vI v2, vI v3] [] (stt (upd2 g4 172 (wr (12 + 29 * y1 + 2)) v3)) K
                generalize eg5 : upd2 g4 172 (wr (12 + 29 * y1 + 2)) v3 = g5
                replace hG := hG g5 eg5.symm
                refine aw_aload_n (k' := 0) (by decide +kernel) rfl ?_
                refine gfX12_13 rfl (by decide +kernel) (OB.at (ci := 10) (show shp 171 = (20, 0) by decide +kernel) (by decide)) ?_
                refine AW.topR (show RC 171 1 = 172 by decide +kernel) ?_
                refine aw_iconst (n := 0) (by decide +kernel) ?_
                refine aw_dup2 (by decide +kernel) trivial trivial ?_
                refine ax_iald (i := 0) (by decide +kernel) (isA_lit (show shp 172 = (0, 2184) by decide +kernel) (by decide)) (by decide +kernel) ⟨by decide, by decide⟩ ?_
                refine aw_iconst (n := 1) (by decide +kernel) ?_
                refine aw_iadd (by decide +kernel) ?_
                refine ax_iast (i := 0) (by decide +kernel) (isA_lit (show shp 172 = (0, 2184) by decide +kernel) (by decide)) (by decide +kernel) ⟨by decide, by decide⟩ ?_
                show AW Γ l mX12_readPerson (d + 1) b 121 [vR 171, vI y1, vI v2, vI v3] [] (stt (upd2 g5 172 0 ((g5 172 0) + 1))) K
                refine aw_iconst (n := 1) (by decide +kernel) ?_
                exact aw_zret (by decide +kernel) rfl rfl hG
              · have hG := hG.2 hc
                refine aw_iconst (n := 0) (by decide +kernel) ?_
                exact aw_zret (by decide +kernel) rfl rfl hG
            · exact hG
          · have hG := hG.2 hc
            refine aw_ldc (idx := 137) (z := 1000000) (by decide +kernel) (tm7 115 (by decide +kernel) (by decide +kernel)) ?_
            refine aw_goto (off := 13) (tgt := 80) (by decide +kernel) (by decide) ?_
            refine aw_istore_n (k' := 3) (by decide +kernel) (by decide) ?_
            show AW Γ l mX12_readPerson (d + 1) b 81 [vR 171, vI y1, vI v2, vI 1000000] [] (stt g2) K
            refine aw_iload_n (k' := 3) (by decide +kernel) rfl ?_
            refine aw_ldc (idx := 137) (z := 1000000) (by decide +kernel) (tm7 115 (by decide +kernel) (by decide +kernel)) ?_
            refine ax_icmp_ne (off := 5) (tgt := 89) (x' := 1000000) (y' := 1000000) (by decide +kernel) (by decide) (by decide +kernel) (by decide +kernel) (fun hc => absurd hc (by decide)) (fun hc => ?_)
            refine aw_iconst (n := 0) (by decide +kernel) ?_
            exact aw_zret (by decide +kernel) rfl rfl hG
        · exact hG
      · have hG := hG.2 hc
        refine aw_iconst (n := 0) (by decide +kernel) ?_
        exact aw_zret (by decide +kernel) rfl rfl hG
    · exact hG
  · have hF := hF.2 hc
    refine aw_aload_n (k' := 0) (by decide +kernel) rfl ?_
    refine gfX12_13 rfl (by decide +kernel) (OB.at (ci := 10) (show shp 171 = (20, 0) by decide +kernel) (by decide)) ?_
    refine AW.topR (show RC 171 1 = 172 by decide +kernel) ?_
    refine aw_iload_n (k' := 1) (by decide +kernel) rfl ?_
    refine aw_iload_n (k' := 2) (by decide +kernel) rfl ?_
    refine aw_callS (y := yX12_personAt) (M2 := mX12_personAt) (as := [vI y1, vI y2]) (S := [vR 172]) (d2 := d) (b2 := 0) (b3 := b) cwX12_personAt mlX12_80 stX12_personAt (by decide +kernel) rfl (Nat.le_refl _) (Nat.le_of_eq (Nat.zero_add _)) rfl rfl (by simp [oneSlot]) (Nat.le_of_ble_eq_true rfl) (c_personAt ?_)
    show AW Γ l mX12_readPerson (d + 1) b 30 [vR 171, vI y1, vI y2, vU] [vI (12 + 29 * y1 + y2), vR 172] (stt g) K
    refine aw_iconst (n := 0) (by decide +kernel) ?_
    refine ax_iast (i := wr (12 + 29 * y1 + y2)) (by decide +kernel) (isA_lit (show shp 172 = (0, 2184) by decide +kernel) (by decide)) rfl hF.1 ?_
    show AW Γ l mX12_readPerson (d + 1) b 32 [vR 171, vI y1, vI y2, vU] [] (stt (upd2 g 172 (wr (12 + 29 * y1 + y2)) 0)) K
    replace hF := hF.2
    show AW Γ l mX12_readPerson (d + 1) b 32 [vR 171, vI y1, vI y2, vU] [] (stt (upd2 g 172 (wr (12 + 29 * y1 + y2)) 0)) K
    generalize eg6 : upd2 g 172 (wr (12 + 29 * y1 + y2)) 0 = g6
    replace hF := hF g6 eg6.symm
    refine aw_iinc (i := 2) (n := 1) (by decide +kernel) rfl (by decide) ?_
    show AW Γ l mX12_readPerson (d + 1) b 35 [vR 171, vI y1, vI (y2 + 1), vU] [] (stt g6) K
    refine aw_goto (off := -20) (tgt := 15) (by decide +kernel) (by decide) ?_
    exact hF

set_option maxHeartbeats 1000000 in
theorem wpX12_readMode {Γ : Cfg} {l : Launch} {d b : Nat} {g : GG} {K : Ou → HP → Prop}  (hF : Ct Γ l d 0 yX12_number mX12_number [vR 171, vI 0, vI 3] (stt g) (bI (fun v1 g1 => (wr v1 < 0 → K (.inl (vI 0)) (stt g1)) ∧ (¬ (wr v1 < 0) → Ct Γ l d 0 yX12_readNumber mX12_readNumber [vR 171, vI (8 + v1), vI 0, vI 2] (stt g1) (bI (fun v2 g2 => (wr v2 = 0 → K (.inl (vI 0)) (stt g2)) ∧ (¬ (wr v2 = 0) → K (.inl (vI 1)) (stt g2))) K))) K)) : Ct Γ l (d + 1) b yX12_readMode mX12_readMode [vR 171] (stt g) K := by
  refine Ct.enter (L := [vR 171, vU]) rfl rfl rfl (by decide +kernel) (by simp [oneSlot]) (Nat.le_of_ble_eq_true rfl) rfl ?_
  refine aw_aload_n (k' := 0) (by decide +kernel) rfl ?_
  refine aw_iconst (n := 0) (by decide +kernel) ?_
  refine aw_iconst (n := 3) (by decide +kernel) ?_
  refine aw_callV (y := yX12_number) (M2 := mX12_number) (as := [vI 0, vI 3]) (S := []) (t := 171) (d2 := d) (b2 := 0) (b3 := b) cwX12_number mlX12_134 imX12_number seX12_number (by decide +kernel) rfl (ci := 10) rfl (OB.at (ci := 10) (show shp 171 = (20, 0) by decide +kernel) (by decide)) (Nat.le_refl _) (Nat.le_of_eq (Nat.zero_add _)) rfl rfl (by simp [oneSlot]) (Nat.le_of_ble_eq_true rfl) (Ct.mono hF ?_)
  rintro o h' (⟨v1, g1, rfl, rfl, hG⟩ | ⟨E, g, rfl, rfl, hG⟩)
  · show AW Γ l mX12_readMode (d + 1) b 6 [vR 171, vU] [vI v1] (stt g1) K
    refine aw_istore_n (k' := 1) (by decide +kernel) (by decide) ?_
    show AW Γ l mX12_readMode (d + 1) b 7 [vR 171, vI v1] [] (stt g1) K
    refine aw_iload_n (k' := 1) (by decide +kernel) rfl ?_
    refine ax_if_lt (off := 20) (tgt := 28) (x' := wr v1) (by decide +kernel) (by decide) rfl (fun hc => ?_) (fun hc => ?_)
    · have hG := hG.1 hc
      refine aw_iconst (n := 0) (by decide +kernel) ?_
      exact aw_zret (by decide +kernel) rfl rfl hG
    · have hG := hG.2 hc
      refine aw_aload_n (k' := 0) (by decide +kernel) rfl ?_
      refine aw_bipush (n := 8) (by decide +kernel) (by decide +kernel) ?_
      refine aw_iload_n (k' := 1) (by decide +kernel) rfl ?_
      refine aw_iadd (by decide +kernel) ?_
      refine aw_iconst (n := 0) (by decide +kernel) ?_
      refine aw_iconst (n := 2) (by decide +kernel) ?_
      refine aw_callV (y := yX12_readNumber) (M2 := mX12_readNumber) (as := [vI (8 + v1), vI 0, vI 2]) (S := []) (t := 171) (d2 := d) (b2 := 0) (b3 := b) cwX12_readNumber mlX12_182 imX12_readNumber seX12_readNumber (by decide +kernel) rfl (ci := 10) rfl (OB.at (ci := 10) (show shp 171 = (20, 0) by decide +kernel) (by decide)) (Nat.le_refl _) (Nat.le_of_eq (Nat.zero_add _)) rfl rfl (by simp [oneSlot]) (Nat.le_of_ble_eq_true rfl) (Ct.mono hG ?_)
      rintro o h' (⟨v2, g2, rfl, rfl, hG⟩ | ⟨E, g, rfl, rfl, hG⟩)
      · show AW Γ l mX12_readMode (d + 1) b 21 [vR 171, vI v1] [vI v2] (stt g2) K
        refine ax_if_eq (off := 7) (tgt := 28) (x' := wr v2) (by decide +kernel) (by decide) rfl (fun hc => ?_) (fun hc => ?_)
        · have hG := hG.1 hc
          refine aw_iconst (n := 0) (by decide +kernel) ?_
          exact aw_zret (by decide +kernel) rfl rfl hG
        · have hG := hG.2 hc
          refine aw_iconst (n := 1) (by decide +kernel) ?_
          refine aw_goto (off := 4) (tgt := 29) (by decide +kernel) (by decide) ?_
          exact aw_zret (by decide +kernel) rfl rfl hG
      · exact hG
  · exact hG

set_option maxHeartbeats 1000000 in
theorem wpX12_readHillsLine {Γ : Cfg} {l : Launch} {d b : Nat} {g : GG} {K : Ou → HP → Prop}  (hF : Ct Γ l d 0 yX12_isWord mX12_isWord [vR 171, vR 2016] (stt g) (bI (fun v1 g1 => (wr v1 = 0 → Ct Γ l d 0 yX12_isWord mX12_isWord [vR 171, vR 2029] (stt g1) (bI (fun v2 g2 => (wr v2 = 0 → Ct Γ l d 0 yX12_isWord mX12_isWord [vR 171, vR 2030] (stt g2) (bI (fun v3 g3 => (wr v3 = 0 → Ct Γ l d 0 yX12_isWord mX12_isWord [vR 171, vR 2031] (stt g3) (bI (fun v4 g4 => (wr v4 = 0 → Ct Γ l d 0 yX12_isWord mX12_isWord [vR 171, vR 2032] (stt g4) (bI (fun v5 g5 => (wr v5 = 0 → K (.inl (vI 0)) (stt g5)) ∧ (¬ (wr v5 = 0) → Ct Γ l d 0 yX12_readNumber mX12_readNumber [vR 171, vI 5, vI 0, vI 999] (stt g5) (bI (fun v6 g6 => (wr v6 = 0 → K (.inl (vI 0)) (stt g6)) ∧ (¬ (wr v6 = 0) → K (.inl (vI 1)) (stt g6))) K))) K)) ∧ (¬ (wr v4 = 0) → Ct Γ l d 0 yX12_readNumber mX12_readNumber [vR 171, vI 4, vI 0, vI 999] (stt g4) (bI (fun v7 g7 => (wr v7 = 0 ∨ wr v7 = 1) ∧ K (.inl (vI v7)) (stt g7)) K))) K)) ∧ (¬ (wr v3 = 0) → Ct Γ l d 0 yX12_readNumber mX12_readNumber [vR 171, vI 3, vI 0, vI 100] (stt g3) (bI (fun v8 g8 => (wr v8 = 0 ∨ wr v8 = 1) ∧ K (.inl (vI v8)) (stt g8)) K))) K)) ∧ (¬ (wr v2 = 0) → Ct Γ l d 0 yX12_readMode mX12_readMode [vR 171] (stt g2) (bI (fun v9 g9 => (wr v9 = 0 ∨ wr v9 = 1) ∧ K (.inl (vI v9)) (stt g9)) K))) K)) ∧ (¬ (wr v1 = 0) → Ct Γ l d 0 yX12_readPerson mX12_readPerson [vR 171] (stt g1) (bI (fun v10 g10 => (wr v10 = 0 ∨ wr v10 = 1) ∧ K (.inl (vI v10)) (stt g10)) K))) K)) : Ct Γ l (d + 1) b yX12_readHillsLine mX12_readHillsLine [vR 171] (stt g) K := by
  refine Ct.enter (L := [vR 171]) rfl rfl rfl (by decide +kernel) (by simp [oneSlot]) (Nat.le_of_ble_eq_true rfl) rfl ?_
  refine aw_aload_n (k' := 0) (by decide +kernel) rfl ?_
  refine aw_ldcS (idx := 185) (i := 16) (r := 2016) (by decide +kernel) (by decide) (by decide) (by decide +kernel) ?_
  refine aw_callV (y := yX12_isWord) (M2 := mX12_isWord) (as := [vR 2016]) (S := []) (t := 171) (d2 := d) (b2 := 0) (b3 := b) cwX12_isWord mlX12_127 imX12_isWord seX12_isWord (by decide +kernel) rfl (ci := 10) rfl (OB.at (ci := 10) (show shp 171 = (20, 0) by decide +kernel) (by decide)) (Nat.le_refl _) (Nat.le_of_eq (Nat.zero_add _)) rfl rfl (by simp [oneSlot]) (Nat.le_of_ble_eq_true rfl) (Ct.mono hF ?_)
  rintro o h' (⟨v1, g1, rfl, rfl, hG⟩ | ⟨E, g, rfl, rfl, hG⟩)
  · show AW Γ l mX12_readHillsLine (d + 1) b 6 [vR 171] [vI v1] (stt g1) K
    refine ax_if_eq (off := 8) (tgt := 14) (x' := wr v1) (by decide +kernel) (by decide) rfl (fun hc => ?_) (fun hc => ?_)
    · have hG := hG.1 hc
      refine aw_aload_n (k' := 0) (by decide +kernel) rfl ?_
      refine aw_ldcS (idx := 191) (i := 29) (r := 2029) (by decide +kernel) (by decide) (by decide) (by decide +kernel) ?_
      refine aw_callV (y := yX12_isWord) (M2 := mX12_isWord) (as := [vR 2029]) (S := []) (t := 171) (d2 := d) (b2 := 0) (b3 := b) cwX12_isWord mlX12_127 imX12_isWord seX12_isWord (by decide +kernel) rfl (ci := 10) rfl (OB.at (ci := 10) (show shp 171 = (20, 0) by decide +kernel) (by decide)) (Nat.le_refl _) (Nat.le_of_eq (Nat.zero_add _)) rfl rfl (by simp [oneSlot]) (Nat.le_of_ble_eq_true rfl) (Ct.mono hG ?_)
      rintro o h' (⟨v2, g2, rfl, rfl, hG⟩ | ⟨E, g, rfl, rfl, hG⟩)
      · show AW Γ l mX12_readHillsLine (d + 1) b 20 [vR 171] [vI v2] (stt g2) K
        refine ax_if_eq (off := 8) (tgt := 28) (x' := wr v2) (by decide +kernel) (by decide) rfl (fun hc => ?_) (fun hc => ?_)
        · have hG := hG.1 hc
          refine aw_aload_n (k' := 0) (by decide +kernel) rfl ?_
          refine aw_ldcS (idx := 196) (i := 30) (r := 2030) (by decide +kernel) (by decide) (by decide) (by decide +kernel) ?_
          refine aw_callV (y := yX12_isWord) (M2 := mX12_isWord) (as := [vR 2030]) (S := []) (t := 171) (d2 := d) (b2 := 0) (b3 := b) cwX12_isWord mlX12_127 imX12_isWord seX12_isWord (by decide +kernel) rfl (ci := 10) rfl (OB.at (ci := 10) (show shp 171 = (20, 0) by decide +kernel) (by decide)) (Nat.le_refl _) (Nat.le_of_eq (Nat.zero_add _)) rfl rfl (by simp [oneSlot]) (Nat.le_of_ble_eq_true rfl) (Ct.mono hG ?_)
          rintro o h' (⟨v3, g3, rfl, rfl, hG⟩ | ⟨E, g, rfl, rfl, hG⟩)
          · show AW Γ l mX12_readHillsLine (d + 1) b 34 [vR 171] [vI v3] (stt g3) K
            refine ax_if_eq (off := 12) (tgt := 46) (x' := wr v3) (by decide +kernel) (by decide) rfl (fun hc => ?_) (fun hc => ?_)
            · have hG := hG.1 hc
              refine aw_aload_n (k' := 0) (by decide +kernel) rfl ?_
              refine aw_ldcS (idx := 198) (i := 31) (r := 2031) (by decide +kernel) (by decide) (by decide) (by decide +kernel) ?_
              refine aw_callV (y := yX12_isWord) (M2 := mX12_isWord) (as := [vR 2031]) (S := []) (t := 171) (d2 := d) (b2 := 0) (b3 := b) cwX12_isWord mlX12_127 imX12_isWord seX12_isWord (by decide +kernel) rfl (ci := 10) rfl (OB.at (ci := 10) (show shp 171 = (20, 0) by decide +kernel) (by decide)) (Nat.le_refl _) (Nat.le_of_eq (Nat.zero_add _)) rfl rfl (by simp [oneSlot]) (Nat.le_of_ble_eq_true rfl) (Ct.mono hG ?_)
              rintro o h' (⟨v4, g4, rfl, rfl, hG⟩ | ⟨E, g, rfl, rfl, hG⟩)
              · show AW Γ l mX12_readHillsLine (d + 1) b 52 [vR 171] [vI v4] (stt g4) K
                refine ax_if_eq (off := 13) (tgt := 65) (x' := wr v4) (by decide +kernel) (by decide) rfl (fun hc => ?_) (fun hc => ?_)
                · have hG := hG.1 hc
                  refine aw_aload_n (k' := 0) (by decide +kernel) rfl ?_
                  refine aw_ldcS (idx := 200) (i := 32) (r := 2032) (by decide +kernel) (by decide) (by decide) (by decide +kernel) ?_
                  refine aw_callV (y := yX12_isWord) (M2 := mX12_isWord) (as := [vR 2032]) (S := []) (t := 171) (d2 := d) (b2 := 0) (b3 := b) cwX12_isWord mlX12_127 imX12_isWord seX12_isWord (by decide +kernel) rfl (ci := 10) rfl (OB.at (ci := 10) (show shp 171 = (20, 0) by decide +kernel) (by decide)) (Nat.le_refl _) (Nat.le_of_eq (Nat.zero_add _)) rfl rfl (by simp [oneSlot]) (Nat.le_of_ble_eq_true rfl) (Ct.mono hG ?_)
                  rintro o h' (⟨v5, g5, rfl, rfl, hG⟩ | ⟨E, g, rfl, rfl, hG⟩)
                  · show AW Γ l mX12_readHillsLine (d + 1) b 71 [vR 171] [vI v5] (stt g5) K
                    refine ax_if_eq (off := 19) (tgt := 90) (x' := wr v5) (by decide +kernel) (by decide) rfl (fun hc => ?_) (fun hc => ?_)
                    · have hG := hG.1 hc
                      refine aw_iconst (n := 0) (by decide +kernel) ?_
                      exact aw_zret (by decide +kernel) rfl rfl hG
                    · have hG := hG.2 hc
                      refine aw_aload_n (k' := 0) (by decide +kernel) rfl ?_
                      refine aw_iconst (n := 5) (by decide +kernel) ?_
                      refine aw_iconst (n := 0) (by decide +kernel) ?_
                      refine aw_sipush (n := 999) (by decide +kernel) (by decide +kernel) ?_
                      refine aw_callV (y := yX12_readNumber) (M2 := mX12_readNumber) (as := [vI 5, vI 0, vI 999]) (S := []) (t := 171) (d2 := d) (b2 := 0) (b3 := b) cwX12_readNumber mlX12_182 imX12_readNumber seX12_readNumber (by decide +kernel) rfl (ci := 10) rfl (OB.at (ci := 10) (show shp 171 = (20, 0) by decide +kernel) (by decide)) (Nat.le_refl _) (Nat.le_of_eq (Nat.zero_add _)) rfl rfl (by simp [oneSlot]) (Nat.le_of_ble_eq_true rfl) (Ct.mono hG ?_)
                      rintro o h' (⟨v6, g6, rfl, rfl, hG⟩ | ⟨E, g, rfl, rfl, hG⟩)
                      · show AW Γ l mX12_readHillsLine (d + 1) b 83 [vR 171] [vI v6] (stt g6) K
                        refine ax_if_eq (off := 7) (tgt := 90) (x' := wr v6) (by decide +kernel) (by decide) rfl (fun hc => ?_) (fun hc => ?_)
                        · have hG := hG.1 hc
                          refine aw_iconst (n := 0) (by decide +kernel) ?_
                          exact aw_zret (by decide +kernel) rfl rfl hG
                        · have hG := hG.2 hc
                          refine aw_iconst (n := 1) (by decide +kernel) ?_
                          refine aw_goto (off := 4) (tgt := 91) (by decide +kernel) (by decide) ?_
                          exact aw_zret (by decide +kernel) rfl rfl hG
                      · exact hG
                  · exact hG
                · have hG := hG.2 hc
                  refine aw_aload_n (k' := 0) (by decide +kernel) rfl ?_
                  refine aw_iconst (n := 4) (by decide +kernel) ?_
                  refine aw_iconst (n := 0) (by decide +kernel) ?_
                  refine aw_sipush (n := 999) (by decide +kernel) (by decide +kernel) ?_
                  refine aw_callV (y := yX12_readNumber) (M2 := mX12_readNumber) (as := [vI 4, vI 0, vI 999]) (S := []) (t := 171) (d2 := d) (b2 := 0) (b3 := b) cwX12_readNumber mlX12_182 imX12_readNumber seX12_readNumber (by decide +kernel) rfl (ci := 10) rfl (OB.at (ci := 10) (show shp 171 = (20, 0) by decide +kernel) (by decide)) (Nat.le_refl _) (Nat.le_of_eq (Nat.zero_add _)) rfl rfl (by simp [oneSlot]) (Nat.le_of_ble_eq_true rfl) (Ct.mono hG ?_)
                  rintro o h' (⟨v7, g7, rfl, rfl, hG⟩ | ⟨E, g, rfl, rfl, hG⟩)
                  · show AW Γ l mX12_readHillsLine (d + 1) b 64 [vR 171] [vI v7] (stt g7) K
                    exact aw_zret (by decide +kernel) rfl (nar_z hG.1) hG.2
                  · exact hG
              · exact hG
            · have hG := hG.2 hc
              refine aw_aload_n (k' := 0) (by decide +kernel) rfl ?_
              refine aw_iconst (n := 3) (by decide +kernel) ?_
              refine aw_iconst (n := 0) (by decide +kernel) ?_
              refine aw_bipush (n := 100) (by decide +kernel) (by decide +kernel) ?_
              refine aw_callV (y := yX12_readNumber) (M2 := mX12_readNumber) (as := [vI 3, vI 0, vI 100]) (S := []) (t := 171) (d2 := d) (b2 := 0) (b3 := b) cwX12_readNumber mlX12_182 imX12_readNumber seX12_readNumber (by decide +kernel) rfl (ci := 10) rfl (OB.at (ci := 10) (show shp 171 = (20, 0) by decide +kernel) (by decide)) (Nat.le_refl _) (Nat.le_of_eq (Nat.zero_add _)) rfl rfl (by simp [oneSlot]) (Nat.le_of_ble_eq_true rfl) (Ct.mono hG ?_)
              rintro o h' (⟨v8, g8, rfl, rfl, hG⟩ | ⟨E, g, rfl, rfl, hG⟩)
              · show AW Γ l mX12_readHillsLine (d + 1) b 45 [vR 171] [vI v8] (stt g8) K
                exact aw_zret (by decide +kernel) rfl (nar_z hG.1) hG.2
              · exact hG
          · exact hG
        · have hG := hG.2 hc
          refine aw_aload_n (k' := 0) (by decide +kernel) rfl ?_
          refine aw_callV (y := yX12_readMode) (M2 := mX12_readMode) (as := []) (S := []) (t := 171) (d2 := d) (b2 := 0) (b3 := b) cwX12_readMode mlX12_193 imX12_readMode seX12_readMode (by decide +kernel) rfl (ci := 10) rfl (OB.at (ci := 10) (show shp 171 = (20, 0) by decide +kernel) (by decide)) (Nat.le_refl _) (Nat.le_of_eq (Nat.zero_add _)) rfl rfl (by simp [oneSlot]) (Nat.le_of_ble_eq_true rfl) (Ct.mono hG ?_)
          rintro o h' (⟨v9, g9, rfl, rfl, hG⟩ | ⟨E, g, rfl, rfl, hG⟩)
          · show AW Γ l mX12_readHillsLine (d + 1) b 27 [vR 171] [vI v9] (stt g9) K
            exact aw_zret (by decide +kernel) rfl (nar_z hG.1) hG.2
          · exact hG
      · exact hG
    · have hG := hG.2 hc
      refine aw_aload_n (k' := 0) (by decide +kernel) rfl ?_
      refine aw_callV (y := yX12_readPerson) (M2 := mX12_readPerson) (as := []) (S := []) (t := 171) (d2 := d) (b2 := 0) (b3 := b) cwX12_readPerson mlX12_187 imX12_readPerson seX12_readPerson (by decide +kernel) rfl (ci := 10) rfl (OB.at (ci := 10) (show shp 171 = (20, 0) by decide +kernel) (by decide)) (Nat.le_refl _) (Nat.le_of_eq (Nat.zero_add _)) rfl rfl (by simp [oneSlot]) (Nat.le_of_ble_eq_true rfl) (Ct.mono hG ?_)
      rintro o h' (⟨v10, g10, rfl, rfl, hG⟩ | ⟨E, g, rfl, rfl, hG⟩)
      · show AW Γ l mX12_readHillsLine (d + 1) b 13 [vR 171] [vI v10] (stt g10) K
        exact aw_zret (by decide +kernel) rfl (nar_z hG.1) hG.2
      · exact hG
  · exact hG

set_option maxHeartbeats 1000000 in
theorem wpX12_emits {Γ : Cfg} {l : Launch} {d b : Nat} {g : GG} {K : Ou → HP → Prop} {x1 : Int} {x2 : Int} (hF : (0 ≤ wr (1384 + (2 * (g 171 17))) ∧ wr (1384 + (2 * (g 171 17))) < 2184) ∧ (∀ g1 : GG, g1 = upd2 g 172 (wr (1384 + (2 * (g 171 17)))) x1 → (0 ≤ wr ((1384 + (2 * (g1 171 17))) + 1) ∧ wr ((1384 + (2 * (g1 171 17))) + 1) < 2184) ∧ (∀ g2 : GG, g2 = upd2 g1 172 (wr ((1384 + (2 * (g1 171 17))) + 1)) x2 → K (.inl vU) (stt (upd2 g2 171 17 ((g2 171 17) + 1)))))) : Ct Γ l d b yX12_emits mX12_emits [vR 171, vI x1, vI x2] (stt g) K := by
  refine Ct.enter (L := [vR 171, vI x1, vI x2]) rfl rfl rfl (by decide +kernel) (by simp [oneSlot]) (Nat.le_of_ble_eq_true rfl) rfl ?_
  refine aw_aload_n (k' := 0) (by decide +kernel) rfl ?_
  refine gfX12_13 rfl (by decide +kernel) (OB.at (ci := 10) (show shp 171 = (20, 0) by decide +kernel) (by decide)) ?_
  refine AW.topR (show RC 171 1 = 172 by decide +kernel) ?_
  refine aw_sipush (n := 1384) (by decide +kernel) (by decide +kernel) ?_
  refine aw_iconst (n := 2) (by decide +kernel) ?_
  refine aw_aload_n (k' := 0) (by decide +kernel) rfl ?_
  refine gfX12_202 rfl (by decide +kernel) (OB.at (ci := 10) (show shp 171 = (20, 0) by decide +kernel) (by decide)) ?_
  refine aw_imul (by decide +kernel) ?_
  refine aw_iadd (by decide +kernel) ?_
  refine aw_iload_n (k' := 1) (by decide +kernel) rfl ?_
  refine ax_iast (i := wr (1384 + (2 * (g 171 17)))) (by decide +kernel) (isA_lit (show shp 172 = (0, 2184) by decide +kernel) (by decide)) rfl hF.1 ?_
  show AW Γ l mX12_emits d b 16 [vR 171, vI x1, vI x2] [] (stt (upd2 g 172 (wr (1384 + (2 * (g 171 17)))) x1)) K
  replace hF := hF.2
  show AW Γ l mX12_emits d b 16 [vR 171, vI x1, vI x2] [] (stt (upd2 g 172 (wr (1384 + (2 * (g 171 17)))) x1)) K
  generalize eg1 : upd2 g 172 (wr (1384 + (2 * (g 171 17)))) x1 = g1
  replace hF := hF g1 eg1.symm
  refine aw_aload_n (k' := 0) (by decide +kernel) rfl ?_
  refine gfX12_13 rfl (by decide +kernel) (OB.at (ci := 10) (show shp 171 = (20, 0) by decide +kernel) (by decide)) ?_
  refine AW.topR (show RC 171 1 = 172 by decide +kernel) ?_
  refine aw_sipush (n := 1384) (by decide +kernel) (by decide +kernel) ?_
  refine aw_iconst (n := 2) (by decide +kernel) ?_
  refine aw_aload_n (k' := 0) (by decide +kernel) rfl ?_
  refine gfX12_202 rfl (by decide +kernel) (OB.at (ci := 10) (show shp 171 = (20, 0) by decide +kernel) (by decide)) ?_
  refine aw_imul (by decide +kernel) ?_
  refine aw_iadd (by decide +kernel) ?_
  refine aw_iconst (n := 1) (by decide +kernel) ?_
  refine aw_iadd (by decide +kernel) ?_
  refine aw_iload_n (k' := 2) (by decide +kernel) rfl ?_
  refine ax_iast (i := wr ((1384 + (2 * (g1 171 17))) + 1)) (by decide +kernel) (isA_lit (show shp 172 = (0, 2184) by decide +kernel) (by decide)) rfl hF.1 ?_
  show AW Γ l mX12_emits d b 34 [vR 171, vI x1, vI x2] [] (stt (upd2 g1 172 (wr ((1384 + (2 * (g1 171 17))) + 1)) x2)) K
  replace hF := hF.2
  show AW Γ l mX12_emits d b 34 [vR 171, vI x1, vI x2] [] (stt (upd2 g1 172 (wr ((1384 + (2 * (g1 171 17))) + 1)) x2)) K
  generalize eg2 : upd2 g1 172 (wr ((1384 + (2 * (g1 171 17))) + 1)) x2 = g2
  replace hF := hF g2 eg2.symm
  refine aw_aload_n (k' := 0) (by decide +kernel) rfl ?_
  refine aw_dup (by decide +kernel) trivial ?_
  refine gfX12_202 rfl (by decide +kernel) (OB.at (ci := 10) (show shp 171 = (20, 0) by decide +kernel) (by decide)) ?_
  refine aw_iconst (n := 1) (by decide +kernel) ?_
  refine aw_iadd (by decide +kernel) ?_
  refine pfX12_202 rfl (by decide +kernel) (OB.at (ci := 10) (show shp 171 = (20, 0) by decide +kernel) (by decide)) ?_
  show AW Γ l mX12_emits d b 44 [vR 171, vI x1, vI x2] [] (stt (upd2 g2 171 17 ((g2 171 17) + 1))) K
  exact aw_vret (by decide +kernel) rfl hF

set_option maxHeartbeats 1000000 in
theorem wpX12_wordOfPart {Γ : Cfg} {l : Launch} {d b : Nat} {g : GG} {K : Ou → HP → Prop}  (hF : Ct Γ l d 0 yX12_isWord mX12_isWord [vR 171, vR 2039] (stt g) (bI (fun v1 g1 => (wr v1 = 0 → Ct Γ l d 0 yX12_isWord mX12_isWord [vR 171, vR 2040] (stt g1) (bI (fun v2 g2 => (wr v2 = 0 → Ct Γ l d 0 yX12_isWord mX12_isWord [vR 171, vR 2020] (stt g2) (bI (fun v3 g3 => (wr v3 = 0 → Ct Γ l d 0 yX12_isWord mX12_isWord [vR 171, vR 2041] (stt g3) (bI (fun v4 g4 => (wr v4 = 0 → Ct Γ l d 0 yX12_isWord mX12_isWord [vR 171, vR 2023] (stt g4) (bI (fun v5 g5 => (wr v5 = 0 → Ct Γ l d 0 yX12_isWord mX12_isWord [vR 171, vR 2042] (stt g5) (bI (fun v6 g6 => (wr v6 = 0 → Ct Γ l d 0 yX12_isWord mX12_isWord [vR 171, vR 2043] (stt g6) (bI (fun v7 g7 => (wr v7 = 0 → K (.inl (vI (-1))) (stt g7)) ∧ (¬ (wr v7 = 0) → K (.inl (vI 6)) (stt g7))) K)) ∧ (¬ (wr v6 = 0) → K (.inl (vI 5)) (stt g6))) K)) ∧ (¬ (wr v5 = 0) → K (.inl (vI 4)) (stt g5))) K)) ∧ (¬ (wr v4 = 0) → K (.inl (vI 3)) (stt g4))) K)) ∧ (¬ (wr v3 = 0) → K (.inl (vI 2)) (stt g3))) K)) ∧ (¬ (wr v2 = 0) → K (.inl (vI 1)) (stt g2))) K)) ∧ (¬ (wr v1 = 0) → K (.inl (vI 0)) (stt g1))) K)) : Ct Γ l (d + 1) b yX12_wordOfPart mX12_wordOfPart [vR 171] (stt g) K := by
  refine Ct.enter (L := [vR 171]) rfl rfl rfl (by decide +kernel) (by simp [oneSlot]) (Nat.le_of_ble_eq_true rfl) rfl ?_
  refine aw_aload_n (k' := 0) (by decide +kernel) rfl ?_
  refine aw_ldcS (idx := 205) (i := 39) (r := 2039) (by decide +kernel) (by decide) (by decide) (by decide +kernel) ?_
  refine aw_callV (y := yX12_isWord) (M2 := mX12_isWord) (as := [vR 2039]) (S := []) (t := 171) (d2 := d) (b2 := 0) (b3 := b) cwX12_isWord mlX12_127 imX12_isWord seX12_isWord (by decide +kernel) rfl (ci := 10) rfl (OB.at (ci := 10) (show shp 171 = (20, 0) by decide +kernel) (by decide)) (Nat.le_refl _) (Nat.le_of_eq (Nat.zero_add _)) rfl rfl (by simp [oneSlot]) (Nat.le_of_ble_eq_true rfl) (Ct.mono hF ?_)
  rintro o h' (⟨v1, g1, rfl, rfl, hG⟩ | ⟨E, g, rfl, rfl, hG⟩)
  · show AW Γ l mX12_wordOfPart (d + 1) b 6 [vR 171] [vI v1] (stt g1) K
    refine ax_if_eq (off := 5) (tgt := 11) (x' := wr v1) (by decide +kernel) (by decide) rfl (fun hc => ?_) (fun hc => ?_)
    · have hG := hG.1 hc
      refine aw_aload_n (k' := 0) (by decide +kernel) rfl ?_
      refine aw_ldcS (idx := 207) (i := 40) (r := 2040) (by decide +kernel) (by decide) (by decide) (by decide +kernel) ?_
      refine aw_callV (y := yX12_isWord) (M2 := mX12_isWord) (as := [vR 2040]) (S := []) (t := 171) (d2 := d) (b2 := 0) (b3 := b) cwX12_isWord mlX12_127 imX12_isWord seX12_isWord (by decide +kernel) rfl (ci := 10) rfl (OB.at (ci := 10) (show shp 171 = (20, 0) by decide +kernel) (by decide)) (Nat.le_refl _) (Nat.le_of_eq (Nat.zero_add _)) rfl rfl (by simp [oneSlot]) (Nat.le_of_ble_eq_true rfl) (Ct.mono hG ?_)
      rintro o h' (⟨v2, g2, rfl, rfl, hG⟩ | ⟨E, g, rfl, rfl, hG⟩)
      · show AW Γ l mX12_wordOfPart (d + 1) b 17 [vR 171] [vI v2] (stt g2) K
        refine ax_if_eq (off := 5) (tgt := 22) (x' := wr v2) (by decide +kernel) (by decide) rfl (fun hc => ?_) (fun hc => ?_)
        · have hG := hG.1 hc
          refine aw_aload_n (k' := 0) (by decide +kernel) rfl ?_
          refine aw_ldcS (idx := 144) (i := 20) (r := 2020) (by decide +kernel) (by decide) (by decide) (by decide +kernel) ?_
          refine aw_callV (y := yX12_isWord) (M2 := mX12_isWord) (as := [vR 2020]) (S := []) (t := 171) (d2 := d) (b2 := 0) (b3 := b) cwX12_isWord mlX12_127 imX12_isWord seX12_isWord (by decide +kernel) rfl (ci := 10) rfl (OB.at (ci := 10) (show shp 171 = (20, 0) by decide +kernel) (by decide)) (Nat.le_refl _) (Nat.le_of_eq (Nat.zero_add _)) rfl rfl (by simp [oneSlot]) (Nat.le_of_ble_eq_true rfl) (Ct.mono hG ?_)
          rintro o h' (⟨v3, g3, rfl, rfl, hG⟩ | ⟨E, g, rfl, rfl, hG⟩)
          · show AW Γ l mX12_wordOfPart (d + 1) b 28 [vR 171] [vI v3] (stt g3) K
            refine ax_if_eq (off := 5) (tgt := 33) (x' := wr v3) (by decide +kernel) (by decide) rfl (fun hc => ?_) (fun hc => ?_)
            · have hG := hG.1 hc
              refine aw_aload_n (k' := 0) (by decide +kernel) rfl ?_
              refine aw_ldcS (idx := 209) (i := 41) (r := 2041) (by decide +kernel) (by decide) (by decide) (by decide +kernel) ?_
              refine aw_callV (y := yX12_isWord) (M2 := mX12_isWord) (as := [vR 2041]) (S := []) (t := 171) (d2 := d) (b2 := 0) (b3 := b) cwX12_isWord mlX12_127 imX12_isWord seX12_isWord (by decide +kernel) rfl (ci := 10) rfl (OB.at (ci := 10) (show shp 171 = (20, 0) by decide +kernel) (by decide)) (Nat.le_refl _) (Nat.le_of_eq (Nat.zero_add _)) rfl rfl (by simp [oneSlot]) (Nat.le_of_ble_eq_true rfl) (Ct.mono hG ?_)
              rintro o h' (⟨v4, g4, rfl, rfl, hG⟩ | ⟨E, g, rfl, rfl, hG⟩)
              · show AW Γ l mX12_wordOfPart (d + 1) b 39 [vR 171] [vI v4] (stt g4) K
                refine ax_if_eq (off := 5) (tgt := 44) (x' := wr v4) (by decide +kernel) (by decide) rfl (fun hc => ?_) (fun hc => ?_)
                · have hG := hG.1 hc
                  refine aw_aload_n (k' := 0) (by decide +kernel) rfl ?_
                  refine aw_ldcS (idx := 150) (i := 23) (r := 2023) (by decide +kernel) (by decide) (by decide) (by decide +kernel) ?_
                  refine aw_callV (y := yX12_isWord) (M2 := mX12_isWord) (as := [vR 2023]) (S := []) (t := 171) (d2 := d) (b2 := 0) (b3 := b) cwX12_isWord mlX12_127 imX12_isWord seX12_isWord (by decide +kernel) rfl (ci := 10) rfl (OB.at (ci := 10) (show shp 171 = (20, 0) by decide +kernel) (by decide)) (Nat.le_refl _) (Nat.le_of_eq (Nat.zero_add _)) rfl rfl (by simp [oneSlot]) (Nat.le_of_ble_eq_true rfl) (Ct.mono hG ?_)
                  rintro o h' (⟨v5, g5, rfl, rfl, hG⟩ | ⟨E, g, rfl, rfl, hG⟩)
                  · show AW Γ l mX12_wordOfPart (d + 1) b 50 [vR 171] [vI v5] (stt g5) K
                    refine ax_if_eq (off := 5) (tgt := 55) (x' := wr v5) (by decide +kernel) (by decide) rfl (fun hc => ?_) (fun hc => ?_)
                    · have hG := hG.1 hc
                      refine aw_aload_n (k' := 0) (by decide +kernel) rfl ?_
                      refine aw_ldcS (idx := 211) (i := 42) (r := 2042) (by decide +kernel) (by decide) (by decide) (by decide +kernel) ?_
                      refine aw_callV (y := yX12_isWord) (M2 := mX12_isWord) (as := [vR 2042]) (S := []) (t := 171) (d2 := d) (b2 := 0) (b3 := b) cwX12_isWord mlX12_127 imX12_isWord seX12_isWord (by decide +kernel) rfl (ci := 10) rfl (OB.at (ci := 10) (show shp 171 = (20, 0) by decide +kernel) (by decide)) (Nat.le_refl _) (Nat.le_of_eq (Nat.zero_add _)) rfl rfl (by simp [oneSlot]) (Nat.le_of_ble_eq_true rfl) (Ct.mono hG ?_)
                      rintro o h' (⟨v6, g6, rfl, rfl, hG⟩ | ⟨E, g, rfl, rfl, hG⟩)
                      · show AW Γ l mX12_wordOfPart (d + 1) b 61 [vR 171] [vI v6] (stt g6) K
                        refine ax_if_eq (off := 5) (tgt := 66) (x' := wr v6) (by decide +kernel) (by decide) rfl (fun hc => ?_) (fun hc => ?_)
                        · have hG := hG.1 hc
                          refine aw_aload_n (k' := 0) (by decide +kernel) rfl ?_
                          refine aw_ldcS (idx := 213) (i := 43) (r := 2043) (by decide +kernel) (by decide) (by decide) (by decide +kernel) ?_
                          refine aw_callV (y := yX12_isWord) (M2 := mX12_isWord) (as := [vR 2043]) (S := []) (t := 171) (d2 := d) (b2 := 0) (b3 := b) cwX12_isWord mlX12_127 imX12_isWord seX12_isWord (by decide +kernel) rfl (ci := 10) rfl (OB.at (ci := 10) (show shp 171 = (20, 0) by decide +kernel) (by decide)) (Nat.le_refl _) (Nat.le_of_eq (Nat.zero_add _)) rfl rfl (by simp [oneSlot]) (Nat.le_of_ble_eq_true rfl) (Ct.mono hG ?_)
                          rintro o h' (⟨v7, g7, rfl, rfl, hG⟩ | ⟨E, g, rfl, rfl, hG⟩)
                          · show AW Γ l mX12_wordOfPart (d + 1) b 72 [vR 171] [vI v7] (stt g7) K
                            refine ax_if_eq (off := 8) (tgt := 80) (x' := wr v7) (by decide +kernel) (by decide) rfl (fun hc => ?_) (fun hc => ?_)
                            · have hG := hG.1 hc
                              refine aw_iconst (n := -1) (by decide +kernel) ?_
                              exact aw_iret (by decide +kernel) rfl hG
                            · have hG := hG.2 hc
                              refine aw_bipush (n := 6) (by decide +kernel) (by decide +kernel) ?_
                              refine aw_goto (off := 4) (tgt := 81) (by decide +kernel) (by decide) ?_
                              exact aw_iret (by decide +kernel) rfl hG
                          · exact hG
                        · have hG := hG.2 hc
                          refine aw_iconst (n := 5) (by decide +kernel) ?_
                          exact aw_iret (by decide +kernel) rfl hG
                      · exact hG
                    · have hG := hG.2 hc
                      refine aw_iconst (n := 4) (by decide +kernel) ?_
                      exact aw_iret (by decide +kernel) rfl hG
                  · exact hG
                · have hG := hG.2 hc
                  refine aw_iconst (n := 3) (by decide +kernel) ?_
                  exact aw_iret (by decide +kernel) rfl hG
              · exact hG
            · have hG := hG.2 hc
              refine aw_iconst (n := 2) (by decide +kernel) ?_
              exact aw_iret (by decide +kernel) rfl hG
          · exact hG
        · have hG := hG.2 hc
          refine aw_iconst (n := 1) (by decide +kernel) ?_
          exact aw_iret (by decide +kernel) rfl hG
      · exact hG
    · have hG := hG.2 hc
      refine aw_iconst (n := 0) (by decide +kernel) ?_
      exact aw_iret (by decide +kernel) rfl hG
  · exact hG

set_option maxHeartbeats 1000000 in
theorem wpX12_readPart {Γ : Cfg} {l : Launch} {d b : Nat} {g : GG} {K : Ou → HP → Prop}  (hF : Ct Γ l d 0 yX12_letters mX12_letters [vR 171] (stt g) (bV (fun g1 => (¬ wr (g1 171 10) = wr (g1 171 12) → Ct Γ l d 0 yX12_wordOfPart mX12_wordOfPart [vR 171] (stt g1) (bI (fun v1 g2 => Ct Γ l d 0 yX12_emits mX12_emits [vR 171, vI v1, vI 0] (stt g2) (bV (fun g3 => (wr v1 < 0 → K (.inl (vI 0)) (stt g3)) ∧ (¬ (wr v1 < 0) → K (.inl (vI 1)) (stt g3))) K)) K)) ∧ (¬ (¬ wr (g1 171 10) = wr (g1 171 12)) → Ct Γ l d 0 yX12_number mX12_number [vR 171, vI 0, vI 999] (stt g1) (bI (fun v2 g4 => Ct Γ l d 0 yX12_emits mX12_emits [vR 171, vI 10, vI v2] (stt g4) (bV (fun g5 => (wr v2 < 0 → K (.inl (vI 0)) (stt g5)) ∧ (¬ (wr v2 < 0) → K (.inl (vI 1)) (stt g5))) K)) K))) K)) : Ct Γ l (d + 1) b yX12_readPart mX12_readPart [vR 171] (stt g) K := by
  refine Ct.enter (L := [vR 171, vU, vU]) rfl rfl rfl (by decide +kernel) (by simp [oneSlot]) (Nat.le_of_ble_eq_true rfl) rfl ?_
  refine aw_aload_n (k' := 0) (by decide +kernel) rfl ?_
  refine aw_callV (y := yX12_letters) (M2 := mX12_letters) (as := []) (S := []) (t := 171) (d2 := d) (b2 := 0) (b3 := b) cwX12_letters mlX12_124 imX12_letters seX12_letters (by decide +kernel) rfl (ci := 10) rfl (OB.at (ci := 10) (show shp 171 = (20, 0) by decide +kernel) (by decide)) (Nat.le_refl _) (Nat.le_of_eq (Nat.zero_add _)) rfl rfl (by simp [oneSlot]) (Nat.le_of_ble_eq_true rfl) (Ct.mono hF ?_)
  rintro o h' (⟨g1, rfl, rfl, hG⟩ | ⟨E, g, rfl, rfl, hG⟩)
  · show AW Γ l mX12_readPart (d + 1) b 4 [vR 171, vU, vU] [] (stt g1) K
    refine aw_aload_n (k' := 0) (by decide +kernel) rfl ?_
    refine gfX12_99 rfl (by decide +kernel) (OB.at (ci := 10) (show shp 171 = (20, 0) by decide +kernel) (by decide)) ?_
    refine aw_aload_n (k' := 0) (by decide +kernel) rfl ?_
    refine gfX12_109 rfl (by decide +kernel) (OB.at (ci := 10) (show shp 171 = (20, 0) by decide +kernel) (by decide)) ?_
    refine ax_icmp_ne (off := 7) (tgt := 19) (x' := wr (g1 171 10)) (y' := wr (g1 171 12)) (by decide +kernel) (by decide) rfl rfl (fun hc => ?_) (fun hc => ?_)
    · have hG := hG.1 hc
      refine aw_iconst (n := 0) (by decide +kernel) ?_
      refine aw_istore_n (k' := 1) (by decide +kernel) (by decide) ?_
      show AW Γ l mX12_readPart (d + 1) b 21 [vR 171, vI 0, vU] [] (stt g1) K
      refine aw_iload_n (k' := 1) (by decide +kernel) rfl ?_
      refine ax_if_eq (off := 14) (tgt := 36) (x' := 0) (by decide +kernel) (by decide) (by decide +kernel) (fun hc => ?_) (fun hc => absurd (by decide) hc)
      refine aw_aload_n (k' := 0) (by decide +kernel) rfl ?_
      refine aw_callV (y := yX12_wordOfPart) (M2 := mX12_wordOfPart) (as := []) (S := []) (t := 171) (d2 := d) (b2 := 0) (b3 := b) cwX12_wordOfPart mlX12_215 imX12_wordOfPart seX12_wordOfPart (by decide +kernel) rfl (ci := 10) rfl (OB.at (ci := 10) (show shp 171 = (20, 0) by decide +kernel) (by decide)) (Nat.le_refl _) (Nat.le_of_eq (Nat.zero_add _)) rfl rfl (by simp [oneSlot]) (Nat.le_of_ble_eq_true rfl) (Ct.mono hG ?_)
      rintro o h' (⟨v1, g2, rfl, rfl, hG⟩ | ⟨E, g, rfl, rfl, hG⟩)
      · show AW Γ l mX12_readPart (d + 1) b 40 [vR 171, vI 0, vU] [vI v1] (stt g2) K
        refine aw_istore_n (k' := 2) (by decide +kernel) (by decide) ?_
        show AW Γ l mX12_readPart (d + 1) b 41 [vR 171, vI 0, vI v1] [] (stt g2) K
        refine aw_aload_n (k' := 0) (by decide +kernel) rfl ?_
        refine aw_iload_n (k' := 1) (by decide +kernel) rfl ?_
        refine ax_if_eq (off := 8) (tgt := 51) (x' := 0) (by decide +kernel) (by decide) (by decide +kernel) (fun hc => ?_) (fun hc => absurd (by decide) hc)
        refine aw_iload_n (k' := 2) (by decide +kernel) rfl ?_
        refine aw_iload_n (k' := 1) (by decide +kernel) rfl ?_
        refine ax_if_eq (off := 7) (tgt := 60) (x' := 0) (by decide +kernel) (by decide) (by decide +kernel) (fun hc => ?_) (fun hc => absurd (by decide) hc)
        refine aw_iconst (n := 0) (by decide +kernel) ?_
        refine aw_callV (y := yX12_emits) (M2 := mX12_emits) (as := [vI v1, vI 0]) (S := []) (t := 171) (d2 := d) (b2 := 0) (b3 := b) cwX12_emits mlX12_218 imX12_emits seX12_emits (by decide +kernel) rfl (ci := 10) rfl (OB.at (ci := 10) (show shp 171 = (20, 0) by decide +kernel) (by decide)) (Nat.le_refl _) (Nat.le_of_eq (Nat.zero_add _)) rfl rfl (by simp [oneSlot]) (Nat.le_of_ble_eq_true rfl) (Ct.mono hG ?_)
        rintro o h' (⟨g3, rfl, rfl, hG⟩ | ⟨E, g, rfl, rfl, hG⟩)
        · show AW Γ l mX12_readPart (d + 1) b 64 [vR 171, vI 0, vI v1] [] (stt g3) K
          refine aw_iload_n (k' := 2) (by decide +kernel) rfl ?_
          refine ax_if_lt (off := 7) (tgt := 72) (x' := wr v1) (by decide +kernel) (by decide) rfl (fun hc => ?_) (fun hc => ?_)
          · have hG := hG.1 hc
            refine aw_iconst (n := 0) (by decide +kernel) ?_
            exact aw_zret (by decide +kernel) rfl rfl hG
          · have hG := hG.2 hc
            refine aw_iconst (n := 1) (by decide +kernel) ?_
            refine aw_goto (off := 4) (tgt := 73) (by decide +kernel) (by decide) ?_
            exact aw_zret (by decide +kernel) rfl rfl hG
        · exact hG
      · exact hG
    · have hG := hG.2 hc
      refine aw_iconst (n := 1) (by decide +kernel) ?_
      refine aw_goto (off := 4) (tgt := 20) (by decide +kernel) (by decide) ?_
      refine aw_istore_n (k' := 1) (by decide +kernel) (by decide) ?_
      show AW Γ l mX12_readPart (d + 1) b 21 [vR 171, vI 1, vU] [] (stt g1) K
      refine aw_iload_n (k' := 1) (by decide +kernel) rfl ?_
      refine ax_if_eq (off := 14) (tgt := 36) (x' := 1) (by decide +kernel) (by decide) (by decide +kernel) (fun hc => absurd hc (by decide)) (fun hc => ?_)
      refine aw_aload_n (k' := 0) (by decide +kernel) rfl ?_
      refine aw_iconst (n := 0) (by decide +kernel) ?_
      refine aw_sipush (n := 999) (by decide +kernel) (by decide +kernel) ?_
      refine aw_callV (y := yX12_number) (M2 := mX12_number) (as := [vI 0, vI 999]) (S := []) (t := 171) (d2 := d) (b2 := 0) (b3 := b) cwX12_number mlX12_134 imX12_number seX12_number (by decide +kernel) rfl (ci := 10) rfl (OB.at (ci := 10) (show shp 171 = (20, 0) by decide +kernel) (by decide)) (Nat.le_refl _) (Nat.le_of_eq (Nat.zero_add _)) rfl rfl (by simp [oneSlot]) (Nat.le_of_ble_eq_true rfl) (Ct.mono hG ?_)
      rintro o h' (⟨v2, g4, rfl, rfl, hG⟩ | ⟨E, g, rfl, rfl, hG⟩)
      · show AW Γ l mX12_readPart (d + 1) b 33 [vR 171, vI 1, vU] [vI v2] (stt g4) K
        refine aw_goto (off := 7) (tgt := 40) (by decide +kernel) (by decide) ?_
        refine aw_istore_n (k' := 2) (by decide +kernel) (by decide) ?_
        show AW Γ l mX12_readPart (d + 1) b 41 [vR 171, vI 1, vI v2] [] (stt g4) K
        refine aw_aload_n (k' := 0) (by decide +kernel) rfl ?_
        refine aw_iload_n (k' := 1) (by decide +kernel) rfl ?_
        refine ax_if_eq (off := 8) (tgt := 51) (x' := 1) (by decide +kernel) (by decide) (by decide +kernel) (fun hc => absurd hc (by decide)) (fun hc => ?_)
        refine aw_bipush (n := 10) (by decide +kernel) (by decide +kernel) ?_
        refine aw_goto (off := 4) (tgt := 52) (by decide +kernel) (by decide) ?_
        refine aw_iload_n (k' := 1) (by decide +kernel) rfl ?_
        refine ax_if_eq (off := 7) (tgt := 60) (x' := 1) (by decide +kernel) (by decide) (by decide +kernel) (fun hc => absurd hc (by decide)) (fun hc => ?_)
        refine aw_iload_n (k' := 2) (by decide +kernel) rfl ?_
        refine aw_goto (off := 4) (tgt := 61) (by decide +kernel) (by decide) ?_
        refine aw_callV (y := yX12_emits) (M2 := mX12_emits) (as := [vI 10, vI v2]) (S := []) (t := 171) (d2 := d) (b2 := 0) (b3 := b) cwX12_emits mlX12_218 imX12_emits seX12_emits (by decide +kernel) rfl (ci := 10) rfl (OB.at (ci := 10) (show shp 171 = (20, 0) by decide +kernel) (by decide)) (Nat.le_refl _) (Nat.le_of_eq (Nat.zero_add _)) rfl rfl (by simp [oneSlot]) (Nat.le_of_ble_eq_true rfl) (Ct.mono hG ?_)
        rintro o h' (⟨g5, rfl, rfl, hG⟩ | ⟨E, g, rfl, rfl, hG⟩)
        · show AW Γ l mX12_readPart (d + 1) b 64 [vR 171, vI 1, vI v2] [] (stt g5) K
          refine aw_iload_n (k' := 2) (by decide +kernel) rfl ?_
          refine ax_if_lt (off := 7) (tgt := 72) (x' := wr v2) (by decide +kernel) (by decide) rfl (fun hc => ?_) (fun hc => ?_)
          · have hG := hG.1 hc
            refine aw_iconst (n := 0) (by decide +kernel) ?_
            exact aw_zret (by decide +kernel) rfl rfl hG
          · have hG := hG.2 hc
            refine aw_iconst (n := 1) (by decide +kernel) ?_
            refine aw_goto (off := 4) (tgt := 73) (by decide +kernel) (by decide) ?_
            exact aw_zret (by decide +kernel) rfl rfl hG
        · exact hG
      · exact hG
  · exact hG

set_option maxHeartbeats 1000000 in
theorem wpX12_readSum {Γ : Cfg} {l : Launch} {d b : Nat} {g : GG} {K : Ou → HP → Prop}  (hF : Ct Γ l d 0 yX12_readPart mX12_readPart [vR 171] (stt g) (bI (fun v1 g1 => (¬ wr v1 = 0 → AW Γ l mX12_readSum (d + 1) b 9 [vR 171] [] (stt g1) K) ∧ (¬ (¬ wr v1 = 0) → K (.inl (vI 0)) (stt g1))) K)) : Ct Γ l (d + 1) b yX12_readSum mX12_readSum [vR 171] (stt g) K := by
  refine Ct.enter (L := [vR 171]) rfl rfl rfl (by decide +kernel) (by simp [oneSlot]) (Nat.le_of_ble_eq_true rfl) rfl ?_
  refine aw_aload_n (k' := 0) (by decide +kernel) rfl ?_
  refine aw_callV (y := yX12_readPart) (M2 := mX12_readPart) (as := []) (S := []) (t := 171) (d2 := d) (b2 := 0) (b3 := b) cwX12_readPart mlX12_222 imX12_readPart seX12_readPart (by decide +kernel) rfl (ci := 10) rfl (OB.at (ci := 10) (show shp 171 = (20, 0) by decide +kernel) (by decide)) (Nat.le_refl _) (Nat.le_of_eq (Nat.zero_add _)) rfl rfl (by simp [oneSlot]) (Nat.le_of_ble_eq_true rfl) (Ct.mono hF ?_)
  rintro o h' (⟨v1, g1, rfl, rfl, hG⟩ | ⟨E, g, rfl, rfl, hG⟩)
  · show AW Γ l mX12_readSum (d + 1) b 4 [vR 171] [vI v1] (stt g1) K
    refine ax_if_ne (off := 5) (tgt := 9) (x' := wr v1) (by decide +kernel) (by decide) rfl (fun hc => ?_) (fun hc => ?_)
    · have hG := hG.1 hc
      exact hG
    · have hG := hG.2 hc
      refine aw_iconst (n := 0) (by decide +kernel) ?_
      exact aw_zret (by decide +kernel) rfl rfl hG
  · exact hG
set_option maxHeartbeats 1000000 in
theorem wpX12_readSum_9 {Γ : Cfg} {l : Launch} {d b : Nat} {g : GG} {K : Ou → HP → Prop}  (hF : Ct Γ l d 0 yX12_sign mX12_sign [vR 171, vI 43] (stt g) (bI (fun v1 g1 => (wr v1 = 0 → K (.inl (vI 1)) (stt g1)) ∧ (¬ (wr v1 = 0) → Ct Γ l d 0 yX12_readPart mX12_readPart [vR 171] (stt g1) (bI (fun v2 g2 => (¬ wr v2 = 0 → Ct Γ l d 0 yX12_emits mX12_emits [vR 171, vI 11, vI 0] (stt g2) (bV (fun g3 => AW Γ l mX12_readSum (d + 1) b 9 [vR 171] [] (stt g3) K) K)) ∧ (¬ (¬ wr v2 = 0) → K (.inl (vI 0)) (stt g2))) K))) K)) : AW Γ l mX12_readSum (d + 1) b 9 [vR 171] [] (stt g) K := by
  refine aw_aload_n (k' := 0) (by decide +kernel) rfl ?_
  refine aw_bipush (n := 43) (by decide +kernel) (by decide +kernel) ?_
  refine aw_callV (y := yX12_sign) (M2 := mX12_sign) (as := [vI 43]) (S := []) (t := 171) (d2 := d) (b2 := 0) (b3 := b) cwX12_sign mlX12_225 imX12_sign seX12_sign (by decide +kernel) rfl (ci := 10) rfl (OB.at (ci := 10) (show shp 171 = (20, 0) by decide +kernel) (by decide)) (Nat.le_refl _) (Nat.le_of_eq (Nat.zero_add _)) rfl rfl (by simp [oneSlot]) (Nat.le_of_ble_eq_true rfl) (Ct.mono hF ?_)
  rintro o h' (⟨v1, g1, rfl, rfl, hG⟩ | ⟨E, g, rfl, rfl, hG⟩)
  · show AW Γ l mX12_readSum (d + 1) b 15 [vR 171] [vI v1] (stt g1) K
    refine ax_if_eq (off := 22) (tgt := 37) (x' := wr v1) (by decide +kernel) (by decide) rfl (fun hc => ?_) (fun hc => ?_)
    · have hG := hG.1 hc
      refine aw_iconst (n := 1) (by decide +kernel) ?_
      exact aw_zret (by decide +kernel) rfl rfl hG
    · have hG := hG.2 hc
      refine aw_aload_n (k' := 0) (by decide +kernel) rfl ?_
      refine aw_callV (y := yX12_readPart) (M2 := mX12_readPart) (as := []) (S := []) (t := 171) (d2 := d) (b2 := 0) (b3 := b) cwX12_readPart mlX12_222 imX12_readPart seX12_readPart (by decide +kernel) rfl (ci := 10) rfl (OB.at (ci := 10) (show shp 171 = (20, 0) by decide +kernel) (by decide)) (Nat.le_refl _) (Nat.le_of_eq (Nat.zero_add _)) rfl rfl (by simp [oneSlot]) (Nat.le_of_ble_eq_true rfl) (Ct.mono hG ?_)
      rintro o h' (⟨v2, g2, rfl, rfl, hG⟩ | ⟨E, g, rfl, rfl, hG⟩)
      · show AW Γ l mX12_readSum (d + 1) b 22 [vR 171] [vI v2] (stt g2) K
        refine ax_if_ne (off := 5) (tgt := 27) (x' := wr v2) (by decide +kernel) (by decide) rfl (fun hc => ?_) (fun hc => ?_)
        · have hG := hG.1 hc
          refine aw_aload_n (k' := 0) (by decide +kernel) rfl ?_
          refine aw_bipush (n := 11) (by decide +kernel) (by decide +kernel) ?_
          refine aw_iconst (n := 0) (by decide +kernel) ?_
          refine aw_callV (y := yX12_emits) (M2 := mX12_emits) (as := [vI 11, vI 0]) (S := []) (t := 171) (d2 := d) (b2 := 0) (b3 := b) cwX12_emits mlX12_218 imX12_emits seX12_emits (by decide +kernel) rfl (ci := 10) rfl (OB.at (ci := 10) (show shp 171 = (20, 0) by decide +kernel) (by decide)) (Nat.le_refl _) (Nat.le_of_eq (Nat.zero_add _)) rfl rfl (by simp [oneSlot]) (Nat.le_of_ble_eq_true rfl) (Ct.mono hG ?_)
          rintro o h' (⟨g3, rfl, rfl, hG⟩ | ⟨E, g, rfl, rfl, hG⟩)
          · show AW Γ l mX12_readSum (d + 1) b 34 [vR 171] [] (stt g3) K
            refine aw_goto (off := -25) (tgt := 9) (by decide +kernel) (by decide) ?_
            exact hG
          · exact hG
        · have hG := hG.2 hc
          refine aw_iconst (n := 0) (by decide +kernel) ?_
          exact aw_zret (by decide +kernel) rfl rfl hG
      · exact hG
  · exact hG

set_option maxHeartbeats 1000000 in
theorem wpX12_readTag {Γ : Cfg} {l : Launch} {d b : Nat} {g : GG} {K : Ou → HP → Prop}  (hF : Ct Γ l d 0 yX12_letters mX12_letters [vR 171] (stt g) (bV (fun g1 => Ct Γ l d 0 yX12_isWord mX12_isWord [vR 171, vR 2036] (stt g1) (bI (fun v1 g2 => (wr v1 = 0 → Ct Γ l d 0 yX12_isWord mX12_isWord [vR 171, vR 2037] (stt g2) (bI (fun v2 g3 => (wr v2 = 0 → Ct Γ l d 0 yX12_isWord mX12_isWord [vR 171, vR 2038] (stt g3) (bI (fun v3 g4 => (wr v3 = 0 → K (.inl (vI 0)) (stt (upd2 g4 171 10 (g4 171 12)))) ∧ (¬ (wr v3 = 0) → Ct Γ l d 0 yX12_emits mX12_emits [vR 171, vI 9, vI 0] (stt g4) (bV (fun g5 => K (.inl (vI 1)) (stt g5)) K))) K)) ∧ (¬ (wr v2 = 0) → Ct Γ l d 0 yX12_emits mX12_emits [vR 171, vI 8, vI 0] (stt g3) (bV (fun g6 => K (.inl (vI 1)) (stt g6)) K))) K)) ∧ (¬ (wr v1 = 0) → Ct Γ l d 0 yX12_emits mX12_emits [vR 171, vI 7, vI 0] (stt g2) (bV (fun g7 => K (.inl (vI 1)) (stt g7)) K))) K)) K)) : Ct Γ l (d + 1) b yX12_readTag mX12_readTag [vR 171] (stt g) K := by
  refine Ct.enter (L := [vR 171, vU]) rfl rfl rfl (by decide +kernel) (by simp [oneSlot]) (Nat.le_of_ble_eq_true rfl) rfl ?_
  refine aw_aload_n (k' := 0) (by decide +kernel) rfl ?_
  refine aw_callV (y := yX12_letters) (M2 := mX12_letters) (as := []) (S := []) (t := 171) (d2 := d) (b2 := 0) (b3 := b) cwX12_letters mlX12_124 imX12_letters seX12_letters (by decide +kernel) rfl (ci := 10) rfl (OB.at (ci := 10) (show shp 171 = (20, 0) by decide +kernel) (by decide)) (Nat.le_refl _) (Nat.le_of_eq (Nat.zero_add _)) rfl rfl (by simp [oneSlot]) (Nat.le_of_ble_eq_true rfl) (Ct.mono hF ?_)
  rintro o h' (⟨g1, rfl, rfl, hG⟩ | ⟨E, g, rfl, rfl, hG⟩)
  · show AW Γ l mX12_readTag (d + 1) b 4 [vR 171, vU] [] (stt g1) K
    refine aw_aload_n (k' := 0) (by decide +kernel) rfl ?_
    refine aw_ldcS (idx := 228) (i := 36) (r := 2036) (by decide +kernel) (by decide) (by decide) (by decide +kernel) ?_
    refine aw_callV (y := yX12_isWord) (M2 := mX12_isWord) (as := [vR 2036]) (S := []) (t := 171) (d2 := d) (b2 := 0) (b3 := b) cwX12_isWord mlX12_127 imX12_isWord seX12_isWord (by decide +kernel) rfl (ci := 10) rfl (OB.at (ci := 10) (show shp 171 = (20, 0) by decide +kernel) (by decide)) (Nat.le_refl _) (Nat.le_of_eq (Nat.zero_add _)) rfl rfl (by simp [oneSlot]) (Nat.le_of_ble_eq_true rfl) (Ct.mono hG ?_)
    rintro o h' (⟨v1, g2, rfl, rfl, hG⟩ | ⟨E, g, rfl, rfl, hG⟩)
    · show AW Γ l mX12_readTag (d + 1) b 10 [vR 171, vU] [vI v1] (stt g2) K
      refine ax_if_eq (off := 8) (tgt := 18) (x' := wr v1) (by decide +kernel) (by decide) rfl (fun hc => ?_) (fun hc => ?_)
      · have hG := hG.1 hc
        refine aw_aload_n (k' := 0) (by decide +kernel) rfl ?_
        refine aw_ldcS (idx := 230) (i := 37) (r := 2037) (by decide +kernel) (by decide) (by decide) (by decide +kernel) ?_
        refine aw_callV (y := yX12_isWord) (M2 := mX12_isWord) (as := [vR 2037]) (S := []) (t := 171) (d2 := d) (b2 := 0) (b3 := b) cwX12_isWord mlX12_127 imX12_isWord seX12_isWord (by decide +kernel) rfl (ci := 10) rfl (OB.at (ci := 10) (show shp 171 = (20, 0) by decide +kernel) (by decide)) (Nat.le_refl _) (Nat.le_of_eq (Nat.zero_add _)) rfl rfl (by simp [oneSlot]) (Nat.le_of_ble_eq_true rfl) (Ct.mono hG ?_)
        rintro o h' (⟨v2, g3, rfl, rfl, hG⟩ | ⟨E, g, rfl, rfl, hG⟩)
        · show AW Γ l mX12_readTag (d + 1) b 24 [vR 171, vU] [vI v2] (stt g3) K
          refine ax_if_eq (off := 8) (tgt := 32) (x' := wr v2) (by decide +kernel) (by decide) rfl (fun hc => ?_) (fun hc => ?_)
          · have hG := hG.1 hc
            refine aw_aload_n (k' := 0) (by decide +kernel) rfl ?_
            refine aw_ldcS (idx := 232) (i := 38) (r := 2038) (by decide +kernel) (by decide) (by decide) (by decide +kernel) ?_
            refine aw_callV (y := yX12_isWord) (M2 := mX12_isWord) (as := [vR 2038]) (S := []) (t := 171) (d2 := d) (b2 := 0) (b3 := b) cwX12_isWord mlX12_127 imX12_isWord seX12_isWord (by decide +kernel) rfl (ci := 10) rfl (OB.at (ci := 10) (show shp 171 = (20, 0) by decide +kernel) (by decide)) (Nat.le_refl _) (Nat.le_of_eq (Nat.zero_add _)) rfl rfl (by simp [oneSlot]) (Nat.le_of_ble_eq_true rfl) (Ct.mono hG ?_)
            rintro o h' (⟨v3, g4, rfl, rfl, hG⟩ | ⟨E, g, rfl, rfl, hG⟩)
            · show AW Γ l mX12_readTag (d + 1) b 38 [vR 171, vU] [vI v3] (stt g4) K
              refine ax_if_eq (off := 8) (tgt := 46) (x' := wr v3) (by decide +kernel) (by decide) rfl (fun hc => ?_) (fun hc => ?_)
              · have hG := hG.1 hc
                refine aw_iconst (n := -1) (by decide +kernel) ?_
                refine aw_istore_n (k' := 1) (by decide +kernel) (by decide) ?_
                show AW Γ l mX12_readTag (d + 1) b 48 [vR 171, vI (-1)] [] (stt g4) K
                refine aw_iload_n (k' := 1) (by decide +kernel) rfl ?_
                refine ax_if_lt (off := 12) (tgt := 61) (x' := -1) (by decide +kernel) (by decide) (by decide +kernel) (fun hc => ?_) (fun hc => absurd (by decide) hc)
                refine aw_aload_n (k' := 0) (by decide +kernel) rfl ?_
                refine aw_aload_n (k' := 0) (by decide +kernel) rfl ?_
                refine gfX12_109 rfl (by decide +kernel) (OB.at (ci := 10) (show shp 171 = (20, 0) by decide +kernel) (by decide)) ?_
                refine pfX12_99 rfl (by decide +kernel) (OB.at (ci := 10) (show shp 171 = (20, 0) by decide +kernel) (by decide)) ?_
                show AW Γ l mX12_readTag (d + 1) b 69 [vR 171, vI (-1)] [] (stt (upd2 g4 171 10 (g4 171 12))) K
                refine aw_iload_n (k' := 1) (by decide +kernel) rfl ?_
                refine ax_if_lt (off := 7) (tgt := 77) (x' := -1) (by decide +kernel) (by decide) (by decide +kernel) (fun hc => ?_) (fun hc => absurd (by decide) hc)
                refine aw_iconst (n := 0) (by decide +kernel) ?_
                exact aw_zret (by decide +kernel) rfl rfl hG
              · have hG := hG.2 hc
                refine aw_bipush (n := 9) (by decide +kernel) (by decide +kernel) ?_
                refine aw_goto (off := 4) (tgt := 47) (by decide +kernel) (by decide) ?_
                refine aw_istore_n (k' := 1) (by decide +kernel) (by decide) ?_
                show AW Γ l mX12_readTag (d + 1) b 48 [vR 171, vI 9] [] (stt g4) K
                refine aw_iload_n (k' := 1) (by decide +kernel) rfl ?_
                refine ax_if_lt (off := 12) (tgt := 61) (x' := 9) (by decide +kernel) (by decide) (by decide +kernel) (fun hc => absurd hc (by decide)) (fun hc => ?_)
                refine aw_aload_n (k' := 0) (by decide +kernel) rfl ?_
                refine aw_iload_n (k' := 1) (by decide +kernel) rfl ?_
                refine aw_iconst (n := 0) (by decide +kernel) ?_
                refine aw_callV (y := yX12_emits) (M2 := mX12_emits) (as := [vI 9, vI 0]) (S := []) (t := 171) (d2 := d) (b2 := 0) (b3 := b) cwX12_emits mlX12_218 imX12_emits seX12_emits (by decide +kernel) rfl (ci := 10) rfl (OB.at (ci := 10) (show shp 171 = (20, 0) by decide +kernel) (by decide)) (Nat.le_refl _) (Nat.le_of_eq (Nat.zero_add _)) rfl rfl (by simp [oneSlot]) (Nat.le_of_ble_eq_true rfl) (Ct.mono hG ?_)
                rintro o h' (⟨g5, rfl, rfl, hG⟩ | ⟨E, g, rfl, rfl, hG⟩)
                · show AW Γ l mX12_readTag (d + 1) b 58 [vR 171, vI 9] [] (stt g5) K
                  refine aw_goto (off := 11) (tgt := 69) (by decide +kernel) (by decide) ?_
                  refine aw_iload_n (k' := 1) (by decide +kernel) rfl ?_
                  refine ax_if_lt (off := 7) (tgt := 77) (x' := 9) (by decide +kernel) (by decide) (by decide +kernel) (fun hc => absurd hc (by decide)) (fun hc => ?_)
                  refine aw_iconst (n := 1) (by decide +kernel) ?_
                  refine aw_goto (off := 4) (tgt := 78) (by decide +kernel) (by decide) ?_
                  exact aw_zret (by decide +kernel) rfl rfl hG
                · exact hG
            · exact hG
          · have hG := hG.2 hc
            refine aw_bipush (n := 8) (by decide +kernel) (by decide +kernel) ?_
            refine aw_goto (off := 18) (tgt := 47) (by decide +kernel) (by decide) ?_
            refine aw_istore_n (k' := 1) (by decide +kernel) (by decide) ?_
            show AW Γ l mX12_readTag (d + 1) b 48 [vR 171, vI 8] [] (stt g3) K
            refine aw_iload_n (k' := 1) (by decide +kernel) rfl ?_
            refine ax_if_lt (off := 12) (tgt := 61) (x' := 8) (by decide +kernel) (by decide) (by decide +kernel) (fun hc => absurd hc (by decide)) (fun hc => ?_)
            refine aw_aload_n (k' := 0) (by decide +kernel) rfl ?_
            refine aw_iload_n (k' := 1) (by decide +kernel) rfl ?_
            refine aw_iconst (n := 0) (by decide +kernel) ?_
            refine aw_callV (y := yX12_emits) (M2 := mX12_emits) (as := [vI 8, vI 0]) (S := []) (t := 171) (d2 := d) (b2 := 0) (b3 := b) cwX12_emits mlX12_218 imX12_emits seX12_emits (by decide +kernel) rfl (ci := 10) rfl (OB.at (ci := 10) (show shp 171 = (20, 0) by decide +kernel) (by decide)) (Nat.le_refl _) (Nat.le_of_eq (Nat.zero_add _)) rfl rfl (by simp [oneSlot]) (Nat.le_of_ble_eq_true rfl) (Ct.mono hG ?_)
            rintro o h' (⟨g6, rfl, rfl, hG⟩ | ⟨E, g, rfl, rfl, hG⟩)
            · show AW Γ l mX12_readTag (d + 1) b 58 [vR 171, vI 8] [] (stt g6) K
              refine aw_goto (off := 11) (tgt := 69) (by decide +kernel) (by decide) ?_
              refine aw_iload_n (k' := 1) (by decide +kernel) rfl ?_
              refine ax_if_lt (off := 7) (tgt := 77) (x' := 8) (by decide +kernel) (by decide) (by decide +kernel) (fun hc => absurd hc (by decide)) (fun hc => ?_)
              refine aw_iconst (n := 1) (by decide +kernel) ?_
              refine aw_goto (off := 4) (tgt := 78) (by decide +kernel) (by decide) ?_
              exact aw_zret (by decide +kernel) rfl rfl hG
            · exact hG
        · exact hG
      · have hG := hG.2 hc
        refine aw_bipush (n := 7) (by decide +kernel) (by decide +kernel) ?_
        refine aw_goto (off := 32) (tgt := 47) (by decide +kernel) (by decide) ?_
        refine aw_istore_n (k' := 1) (by decide +kernel) (by decide) ?_
        show AW Γ l mX12_readTag (d + 1) b 48 [vR 171, vI 7] [] (stt g2) K
        refine aw_iload_n (k' := 1) (by decide +kernel) rfl ?_
        refine ax_if_lt (off := 12) (tgt := 61) (x' := 7) (by decide +kernel) (by decide) (by decide +kernel) (fun hc => absurd hc (by decide)) (fun hc => ?_)
        refine aw_aload_n (k' := 0) (by decide +kernel) rfl ?_
        refine aw_iload_n (k' := 1) (by decide +kernel) rfl ?_
        refine aw_iconst (n := 0) (by decide +kernel) ?_
        refine aw_callV (y := yX12_emits) (M2 := mX12_emits) (as := [vI 7, vI 0]) (S := []) (t := 171) (d2 := d) (b2 := 0) (b3 := b) cwX12_emits mlX12_218 imX12_emits seX12_emits (by decide +kernel) rfl (ci := 10) rfl (OB.at (ci := 10) (show shp 171 = (20, 0) by decide +kernel) (by decide)) (Nat.le_refl _) (Nat.le_of_eq (Nat.zero_add _)) rfl rfl (by simp [oneSlot]) (Nat.le_of_ble_eq_true rfl) (Ct.mono hG ?_)
        rintro o h' (⟨g7, rfl, rfl, hG⟩ | ⟨E, g, rfl, rfl, hG⟩)
        · show AW Γ l mX12_readTag (d + 1) b 58 [vR 171, vI 7] [] (stt g7) K
          refine aw_goto (off := 11) (tgt := 69) (by decide +kernel) (by decide) ?_
          refine aw_iload_n (k' := 1) (by decide +kernel) rfl ?_
          refine ax_if_lt (off := 7) (tgt := 77) (x' := 7) (by decide +kernel) (by decide) (by decide +kernel) (fun hc => absurd hc (by decide)) (fun hc => ?_)
          refine aw_iconst (n := 1) (by decide +kernel) ?_
          refine aw_goto (off := 4) (tgt := 78) (by decide +kernel) (by decide) ?_
          exact aw_zret (by decide +kernel) rfl rfl hG
        · exact hG
    · exact hG
  · exact hG

set_option maxHeartbeats 1000000 in
theorem wpX12_readAtom {Γ : Cfg} {l : Launch} {d b : Nat} {g : GG} {K : Ou → HP → Prop}  (hF : Ct Γ l d 0 yX12_sign mX12_sign [vR 171, vI 40] (stt g) (bI (fun v1 g1 => (wr v1 = 0 → Ct Γ l d 0 yX12_passes mX12_passes [vR 171, vR 2022] (stt g1) (bI (fun v2 g2 => (wr v2 = 0 → Ct Γ l d 0 yX12_readTag mX12_readTag [vR 171] (stt g2) (bI (fun v3 g3 => (wr v3 = 0 → Ct Γ l d 0 yX12_readSum mX12_readSum [vR 171] (stt g3) (bI (fun v4 g4 => (¬ wr v4 = 0 → Ct Γ l d 0 yX12_sign mX12_sign [vR 171, vI 60] (stt g4) (bI (fun v5 g5 => (¬ wr v5 = 0 → Ct Γ l d 0 yX12_readSum mX12_readSum [vR 171] (stt g5) (bI (fun v6 g6 => (¬ wr v6 = 0 → (wr v5 = 0 → Ct Γ l d 0 yX12_emits mX12_emits [vR 171, vI 13, vI 0] (stt g6) (bV (fun g7 => K (.inl (vI 1)) (stt g7)) K)) ∧ (¬ (wr v5 = 0) → Ct Γ l d 0 yX12_emits mX12_emits [vR 171, vI 12, vI 0] (stt g6) (bV (fun g8 => K (.inl (vI 1)) (stt g8)) K))) ∧ (¬ (¬ wr v6 = 0) → K (.inl (vI 0)) (stt g6))) K)) ∧ (¬ (¬ wr v5 = 0) → Ct Γ l d 0 yX12_sign mX12_sign [vR 171, vI 62] (stt g5) (bI (fun v7 g9 => (wr v7 = 0 → K (.inl (vI 0)) (stt g9)) ∧ (¬ (wr v7 = 0) → Ct Γ l d 0 yX12_readSum mX12_readSum [vR 171] (stt g9) (bI (fun v8 g10 => (¬ wr v8 = 0 → (wr v5 = 0 → Ct Γ l d 0 yX12_emits mX12_emits [vR 171, vI 13, vI 0] (stt g10) (bV (fun g11 => K (.inl (vI 1)) (stt g11)) K)) ∧ (¬ (wr v5 = 0) → Ct Γ l d 0 yX12_emits mX12_emits [vR 171, vI 12, vI 0] (stt g10) (bV (fun g12 => K (.inl (vI 1)) (stt g12)) K))) ∧ (¬ (¬ wr v8 = 0) → K (.inl (vI 0)) (stt g10))) K))) K))) K)) ∧ (¬ (¬ wr v4 = 0) → K (.inl (vI 0)) (stt g4))) K)) ∧ (¬ (wr v3 = 0) → K (.inl (vI 1)) (stt g3))) K)) ∧ (¬ (wr v2 = 0) → (¬ wr (g2 171 13) = 6 → Ct Γ l d 0 yX12_readAtom mX12_readAtom [vR 171] (stt (upd2 g2 171 13 ((g2 171 13) + 1))) (bI (fun v9 g13 => (¬ wr v9 = 0 → Ct Γ l d 0 yX12_emits mX12_emits [vR 171, vI 14, vI 0] (stt (upd2 g13 171 13 ((g13 171 13) - 1))) (bV (fun g14 => K (.inl (vI 1)) (stt g14)) K)) ∧ (¬ (¬ wr v9 = 0) → K (.inl (vI 0)) (stt g13))) K)) ∧ (¬ (¬ wr (g2 171 13) = 6) → K (.inl (vI 0)) (stt g2)))) K)) ∧ (¬ (wr v1 = 0) → (¬ wr (g1 171 13) = 6 → Ct Γ l d 0 yX12_readCond mX12_readCond [vR 171] (stt (upd2 g1 171 13 ((g1 171 13) + 1))) (bI (fun v10 g15 => (¬ wr v10 = 0 → Ct Γ l d 0 yX12_sign mX12_sign [vR 171, vI 41] (stt (upd2 g15 171 13 ((g15 171 13) - 1))) (bI (fun v11 g16 => (wr v11 = 0 ∨ wr v11 = 1) ∧ K (.inl (vI v11)) (stt g16)) K)) ∧ (¬ (¬ wr v10 = 0) → K (.inl (vI 0)) (stt g15))) K)) ∧ (¬ (¬ wr (g1 171 13) = 6) → K (.inl (vI 0)) (stt g1)))) K)) : Ct Γ l (d + 1) b yX12_readAtom mX12_readAtom [vR 171] (stt g) K := by
  refine Ct.enter (L := [vR 171, vU]) rfl rfl rfl (by decide +kernel) (by simp [oneSlot]) (Nat.le_of_ble_eq_true rfl) rfl ?_
  refine aw_aload_n (k' := 0) (by decide +kernel) rfl ?_
  refine aw_bipush (n := 40) (by decide +kernel) (by decide +kernel) ?_
  refine aw_callV (y := yX12_sign) (M2 := mX12_sign) (as := [vI 40]) (S := []) (t := 171) (d2 := d) (b2 := 0) (b3 := b) cwX12_sign mlX12_225 imX12_sign seX12_sign (by decide +kernel) rfl (ci := 10) rfl (OB.at (ci := 10) (show shp 171 = (20, 0) by decide +kernel) (by decide)) (Nat.le_refl _) (Nat.le_of_eq (Nat.zero_add _)) rfl rfl (by simp [oneSlot]) (Nat.le_of_ble_eq_true rfl) (Ct.mono hF ?_)
  rintro o h' (⟨v1, g1, rfl, rfl, hG⟩ | ⟨E, g, rfl, rfl, hG⟩)
  · show AW Γ l mX12_readAtom (d + 1) b 6 [vR 171, vU] [vI v1] (stt g1) K
    refine ax_if_eq (off := 50) (tgt := 56) (x' := wr v1) (by decide +kernel) (by decide) rfl (fun hc => ?_) (fun hc => ?_)
    · have hG := hG.1 hc
      refine aw_aload_n (k' := 0) (by decide +kernel) rfl ?_
      refine aw_ldcS (idx := 148) (i := 22) (r := 2022) (by decide +kernel) (by decide) (by decide) (by decide +kernel) ?_
      refine aw_callV (y := yX12_passes) (M2 := mX12_passes) (as := [vR 2022]) (S := []) (t := 171) (d2 := d) (b2 := 0) (b3 := b) cwX12_passes mlX12_131 imX12_passes seX12_passes (by decide +kernel) rfl (ci := 10) rfl (OB.at (ci := 10) (show shp 171 = (20, 0) by decide +kernel) (by decide)) (Nat.le_refl _) (Nat.le_of_eq (Nat.zero_add _)) rfl rfl (by simp [oneSlot]) (Nat.le_of_ble_eq_true rfl) (Ct.mono hG ?_)
      rintro o h' (⟨v2, g2, rfl, rfl, hG⟩ | ⟨E, g, rfl, rfl, hG⟩)
      · show AW Γ l mX12_readAtom (d + 1) b 62 [vR 171, vU] [vI v2] (stt g2) K
        refine ax_if_eq (off := 52) (tgt := 114) (x' := wr v2) (by decide +kernel) (by decide) rfl (fun hc => ?_) (fun hc => ?_)
        · have hG := hG.1 hc
          refine aw_aload_n (k' := 0) (by decide +kernel) rfl ?_
          refine aw_callV (y := yX12_readTag) (M2 := mX12_readTag) (as := []) (S := []) (t := 171) (d2 := d) (b2 := 0) (b3 := b) cwX12_readTag mlX12_243 imX12_readTag seX12_readTag (by decide +kernel) rfl (ci := 10) rfl (OB.at (ci := 10) (show shp 171 = (20, 0) by decide +kernel) (by decide)) (Nat.le_refl _) (Nat.le_of_eq (Nat.zero_add _)) rfl rfl (by simp [oneSlot]) (Nat.le_of_ble_eq_true rfl) (Ct.mono hG ?_)
          rintro o h' (⟨v3, g3, rfl, rfl, hG⟩ | ⟨E, g, rfl, rfl, hG⟩)
          · show AW Γ l mX12_readAtom (d + 1) b 118 [vR 171, vU] [vI v3] (stt g3) K
            refine ax_if_eq (off := 5) (tgt := 123) (x' := wr v3) (by decide +kernel) (by decide) rfl (fun hc => ?_) (fun hc => ?_)
            · have hG := hG.1 hc
              refine aw_aload_n (k' := 0) (by decide +kernel) rfl ?_
              refine aw_callV (y := yX12_readSum) (M2 := mX12_readSum) (as := []) (S := []) (t := 171) (d2 := d) (b2 := 0) (b3 := b) cwX12_readSum mlX12_246 imX12_readSum seX12_readSum (by decide +kernel) rfl (ci := 10) rfl (OB.at (ci := 10) (show shp 171 = (20, 0) by decide +kernel) (by decide)) (Nat.le_refl _) (Nat.le_of_eq (Nat.zero_add _)) rfl rfl (by simp [oneSlot]) (Nat.le_of_ble_eq_true rfl) (Ct.mono hG ?_)
              rintro o h' (⟨v4, g4, rfl, rfl, hG⟩ | ⟨E, g, rfl, rfl, hG⟩)
              · show AW Γ l mX12_readAtom (d + 1) b 127 [vR 171, vU] [vI v4] (stt g4) K
                refine ax_if_ne (off := 5) (tgt := 132) (x' := wr v4) (by decide +kernel) (by decide) rfl (fun hc => ?_) (fun hc => ?_)
                · have hG := hG.1 hc
                  refine aw_aload_n (k' := 0) (by decide +kernel) rfl ?_
                  refine aw_bipush (n := 60) (by decide +kernel) (by decide +kernel) ?_
                  refine aw_callV (y := yX12_sign) (M2 := mX12_sign) (as := [vI 60]) (S := []) (t := 171) (d2 := d) (b2 := 0) (b3 := b) cwX12_sign mlX12_225 imX12_sign seX12_sign (by decide +kernel) rfl (ci := 10) rfl (OB.at (ci := 10) (show shp 171 = (20, 0) by decide +kernel) (by decide)) (Nat.le_refl _) (Nat.le_of_eq (Nat.zero_add _)) rfl rfl (by simp [oneSlot]) (Nat.le_of_ble_eq_true rfl) (Ct.mono hG ?_)
                  rintro o h' (⟨v5, g5, rfl, rfl, hG⟩ | ⟨E, g, rfl, rfl, hG⟩)
                  · show AW Γ l mX12_readAtom (d + 1) b 138 [vR 171, vU] [vI v5] (stt g5) K
                    refine aw_istore_n (k' := 1) (by decide +kernel) (by decide) ?_
                    show AW Γ l mX12_readAtom (d + 1) b 139 [vR 171, vI v5] [] (stt g5) K
                    refine aw_iload_n (k' := 1) (by decide +kernel) rfl ?_
                    refine ax_if_ne (off := 12) (tgt := 152) (x' := wr v5) (by decide +kernel) (by decide) rfl (fun hc => ?_) (fun hc => ?_)
                    · have hG := hG.1 hc
                      refine aw_aload_n (k' := 0) (by decide +kernel) rfl ?_
                      refine aw_callV (y := yX12_readSum) (M2 := mX12_readSum) (as := []) (S := []) (t := 171) (d2 := d) (b2 := 0) (b3 := b) cwX12_readSum mlX12_246 imX12_readSum seX12_readSum (by decide +kernel) rfl (ci := 10) rfl (OB.at (ci := 10) (show shp 171 = (20, 0) by decide +kernel) (by decide)) (Nat.le_refl _) (Nat.le_of_eq (Nat.zero_add _)) rfl rfl (by simp [oneSlot]) (Nat.le_of_ble_eq_true rfl) (Ct.mono hG ?_)
                      rintro o h' (⟨v6, g6, rfl, rfl, hG⟩ | ⟨E, g, rfl, rfl, hG⟩)
                      · show AW Γ l mX12_readAtom (d + 1) b 156 [vR 171, vI v5] [vI v6] (stt g6) K
                        refine ax_if_ne (off := 5) (tgt := 161) (x' := wr v6) (by decide +kernel) (by decide) rfl (fun hc => ?_) (fun hc => ?_)
                        · have hG := hG.1 hc
                          refine aw_aload_n (k' := 0) (by decide +kernel) rfl ?_
                          refine aw_iload_n (k' := 1) (by decide +kernel) rfl ?_
                          refine ax_if_eq (off := 8) (tgt := 171) (x' := wr v5) (by decide +kernel) (by decide) rfl (fun hc => ?_) (fun hc => ?_)
                          · have hG := hG.1 hc
                            refine aw_bipush (n := 13) (by decide +kernel) (by decide +kernel) ?_
                            refine aw_iconst (n := 0) (by decide +kernel) ?_
                            refine aw_callV (y := yX12_emits) (M2 := mX12_emits) (as := [vI 13, vI 0]) (S := []) (t := 171) (d2 := d) (b2 := 0) (b3 := b) cwX12_emits mlX12_218 imX12_emits seX12_emits (by decide +kernel) rfl (ci := 10) rfl (OB.at (ci := 10) (show shp 171 = (20, 0) by decide +kernel) (by decide)) (Nat.le_refl _) (Nat.le_of_eq (Nat.zero_add _)) rfl rfl (by simp [oneSlot]) (Nat.le_of_ble_eq_true rfl) (Ct.mono hG ?_)
                            rintro o h' (⟨g7, rfl, rfl, hG⟩ | ⟨E, g, rfl, rfl, hG⟩)
                            · show AW Γ l mX12_readAtom (d + 1) b 177 [vR 171, vI v5] [] (stt g7) K
                              refine aw_iconst (n := 1) (by decide +kernel) ?_
                              exact aw_zret (by decide +kernel) rfl rfl hG
                            · exact hG
                          · have hG := hG.2 hc
                            refine aw_bipush (n := 12) (by decide +kernel) (by decide +kernel) ?_
                            refine aw_goto (off := 5) (tgt := 173) (by decide +kernel) (by decide) ?_
                            refine aw_iconst (n := 0) (by decide +kernel) ?_
                            refine aw_callV (y := yX12_emits) (M2 := mX12_emits) (as := [vI 12, vI 0]) (S := []) (t := 171) (d2 := d) (b2 := 0) (b3 := b) cwX12_emits mlX12_218 imX12_emits seX12_emits (by decide +kernel) rfl (ci := 10) rfl (OB.at (ci := 10) (show shp 171 = (20, 0) by decide +kernel) (by decide)) (Nat.le_refl _) (Nat.le_of_eq (Nat.zero_add _)) rfl rfl (by simp [oneSlot]) (Nat.le_of_ble_eq_true rfl) (Ct.mono hG ?_)
                            rintro o h' (⟨g8, rfl, rfl, hG⟩ | ⟨E, g, rfl, rfl, hG⟩)
                            · show AW Γ l mX12_readAtom (d + 1) b 177 [vR 171, vI v5] [] (stt g8) K
                              refine aw_iconst (n := 1) (by decide +kernel) ?_
                              exact aw_zret (by decide +kernel) rfl rfl hG
                            · exact hG
                        · have hG := hG.2 hc
                          refine aw_iconst (n := 0) (by decide +kernel) ?_
                          exact aw_zret (by decide +kernel) rfl rfl hG
                      · exact hG
                    · have hG := hG.2 hc
                      refine aw_aload_n (k' := 0) (by decide +kernel) rfl ?_
                      refine aw_bipush (n := 62) (by decide +kernel) (by decide +kernel) ?_
                      refine aw_callV (y := yX12_sign) (M2 := mX12_sign) (as := [vI 62]) (S := []) (t := 171) (d2 := d) (b2 := 0) (b3 := b) cwX12_sign mlX12_225 imX12_sign seX12_sign (by decide +kernel) rfl (ci := 10) rfl (OB.at (ci := 10) (show shp 171 = (20, 0) by decide +kernel) (by decide)) (Nat.le_refl _) (Nat.le_of_eq (Nat.zero_add _)) rfl rfl (by simp [oneSlot]) (Nat.le_of_ble_eq_true rfl) (Ct.mono hG ?_)
                      rintro o h' (⟨v7, g9, rfl, rfl, hG⟩ | ⟨E, g, rfl, rfl, hG⟩)
                      · show AW Γ l mX12_readAtom (d + 1) b 149 [vR 171, vI v5] [vI v7] (stt g9) K
                        refine ax_if_eq (off := 10) (tgt := 159) (x' := wr v7) (by decide +kernel) (by decide) rfl (fun hc => ?_) (fun hc => ?_)
                        · have hG := hG.1 hc
                          refine aw_iconst (n := 0) (by decide +kernel) ?_
                          exact aw_zret (by decide +kernel) rfl rfl hG
                        · have hG := hG.2 hc
                          refine aw_aload_n (k' := 0) (by decide +kernel) rfl ?_
                          refine aw_callV (y := yX12_readSum) (M2 := mX12_readSum) (as := []) (S := []) (t := 171) (d2 := d) (b2 := 0) (b3 := b) cwX12_readSum mlX12_246 imX12_readSum seX12_readSum (by decide +kernel) rfl (ci := 10) rfl (OB.at (ci := 10) (show shp 171 = (20, 0) by decide +kernel) (by decide)) (Nat.le_refl _) (Nat.le_of_eq (Nat.zero_add _)) rfl rfl (by simp [oneSlot]) (Nat.le_of_ble_eq_true rfl) (Ct.mono hG ?_)
                          rintro o h' (⟨v8, g10, rfl, rfl, hG⟩ | ⟨E, g, rfl, rfl, hG⟩)
                          · show AW Γ l mX12_readAtom (d + 1) b 156 [vR 171, vI v5] [vI v8] (stt g10) K
                            refine ax_if_ne (off := 5) (tgt := 161) (x' := wr v8) (by decide +kernel) (by decide) rfl (fun hc => ?_) (fun hc => ?_)
                            · have hG := hG.1 hc
                              refine aw_aload_n (k' := 0) (by decide +kernel) rfl ?_
                              refine aw_iload_n (k' := 1) (by decide +kernel) rfl ?_
                              refine ax_if_eq (off := 8) (tgt := 171) (x' := wr v5) (by decide +kernel) (by decide) rfl (fun hc => ?_) (fun hc => ?_)
                              · have hG := hG.1 hc
                                refine aw_bipush (n := 13) (by decide +kernel) (by decide +kernel) ?_
                                refine aw_iconst (n := 0) (by decide +kernel) ?_
                                refine aw_callV (y := yX12_emits) (M2 := mX12_emits) (as := [vI 13, vI 0]) (S := []) (t := 171) (d2 := d) (b2 := 0) (b3 := b) cwX12_emits mlX12_218 imX12_emits seX12_emits (by decide +kernel) rfl (ci := 10) rfl (OB.at (ci := 10) (show shp 171 = (20, 0) by decide +kernel) (by decide)) (Nat.le_refl _) (Nat.le_of_eq (Nat.zero_add _)) rfl rfl (by simp [oneSlot]) (Nat.le_of_ble_eq_true rfl) (Ct.mono hG ?_)
                                rintro o h' (⟨g11, rfl, rfl, hG⟩ | ⟨E, g, rfl, rfl, hG⟩)
                                · show AW Γ l mX12_readAtom (d + 1) b 177 [vR 171, vI v5] [] (stt g11) K
                                  refine aw_iconst (n := 1) (by decide +kernel) ?_
                                  exact aw_zret (by decide +kernel) rfl rfl hG
                                · exact hG
                              · have hG := hG.2 hc
                                refine aw_bipush (n := 12) (by decide +kernel) (by decide +kernel) ?_
                                refine aw_goto (off := 5) (tgt := 173) (by decide +kernel) (by decide) ?_
                                refine aw_iconst (n := 0) (by decide +kernel) ?_
                                refine aw_callV (y := yX12_emits) (M2 := mX12_emits) (as := [vI 12, vI 0]) (S := []) (t := 171) (d2 := d) (b2 := 0) (b3 := b) cwX12_emits mlX12_218 imX12_emits seX12_emits (by decide +kernel) rfl (ci := 10) rfl (OB.at (ci := 10) (show shp 171 = (20, 0) by decide +kernel) (by decide)) (Nat.le_refl _) (Nat.le_of_eq (Nat.zero_add _)) rfl rfl (by simp [oneSlot]) (Nat.le_of_ble_eq_true rfl) (Ct.mono hG ?_)
                                rintro o h' (⟨g12, rfl, rfl, hG⟩ | ⟨E, g, rfl, rfl, hG⟩)
                                · show AW Γ l mX12_readAtom (d + 1) b 177 [vR 171, vI v5] [] (stt g12) K
                                  refine aw_iconst (n := 1) (by decide +kernel) ?_
                                  exact aw_zret (by decide +kernel) rfl rfl hG
                                · exact hG
                            · have hG := hG.2 hc
                              refine aw_iconst (n := 0) (by decide +kernel) ?_
                              exact aw_zret (by decide +kernel) rfl rfl hG
                          · exact hG
                      · exact hG
                  · exact hG
                · have hG := hG.2 hc
                  refine aw_iconst (n := 0) (by decide +kernel) ?_
                  exact aw_zret (by decide +kernel) rfl rfl hG
              · exact hG
            · have hG := hG.2 hc
              refine aw_iconst (n := 1) (by decide +kernel) ?_
              exact aw_zret (by decide +kernel) rfl rfl hG
          · exact hG
        · have hG := hG.2 hc
          refine aw_aload_n (k' := 0) (by decide +kernel) rfl ?_
          refine gfX12_234 rfl (by decide +kernel) (OB.at (ci := 10) (show shp 171 = (20, 0) by decide +kernel) (by decide)) ?_
          refine aw_bipush (n := 6) (by decide +kernel) (by decide +kernel) ?_
          refine ax_icmp_ne (off := 5) (tgt := 76) (x' := wr (g2 171 13)) (y' := 6) (by decide +kernel) (by decide) rfl (by decide +kernel) (fun hc => ?_) (fun hc => ?_)
          · have hG := hG.1 hc
            refine aw_aload_n (k' := 0) (by decide +kernel) rfl ?_
            refine aw_dup (by decide +kernel) trivial ?_
            refine gfX12_234 rfl (by decide +kernel) (OB.at (ci := 10) (show shp 171 = (20, 0) by decide +kernel) (by decide)) ?_
            refine aw_iconst (n := 1) (by decide +kernel) ?_
            refine aw_iadd (by decide +kernel) ?_
            refine pfX12_234 rfl (by decide +kernel) (OB.at (ci := 10) (show shp 171 = (20, 0) by decide +kernel) (by decide)) ?_
            show AW Γ l mX12_readAtom (d + 1) b 86 [vR 171, vU] [] (stt (upd2 g2 171 13 ((g2 171 13) + 1))) K
            refine aw_aload_n (k' := 0) (by decide +kernel) rfl ?_
            refine aw_callV (y := yX12_readAtom) (M2 := mX12_readAtom) (as := []) (S := []) (t := 171) (d2 := d) (b2 := 0) (b3 := b) cwX12_readAtom mlX12_240 imX12_readAtom seX12_readAtom (by decide +kernel) rfl (ci := 10) rfl (OB.at (ci := 10) (show shp 171 = (20, 0) by decide +kernel) (by decide)) (Nat.le_refl _) (Nat.le_of_eq (Nat.zero_add _)) rfl rfl (by simp [oneSlot]) (Nat.le_of_ble_eq_true rfl) (Ct.mono hG ?_)
            rintro o h' (⟨v9, g13, rfl, rfl, hG⟩ | ⟨E, g, rfl, rfl, hG⟩)
            · show AW Γ l mX12_readAtom (d + 1) b 90 [vR 171, vU] [vI v9] (stt g13) K
              refine ax_if_ne (off := 5) (tgt := 95) (x' := wr v9) (by decide +kernel) (by decide) rfl (fun hc => ?_) (fun hc => ?_)
              · have hG := hG.1 hc
                refine aw_aload_n (k' := 0) (by decide +kernel) rfl ?_
                refine aw_dup (by decide +kernel) trivial ?_
                refine gfX12_234 rfl (by decide +kernel) (OB.at (ci := 10) (show shp 171 = (20, 0) by decide +kernel) (by decide)) ?_
                refine aw_iconst (n := 1) (by decide +kernel) ?_
                refine aw_isub (by decide +kernel) ?_
                refine pfX12_234 rfl (by decide +kernel) (OB.at (ci := 10) (show shp 171 = (20, 0) by decide +kernel) (by decide)) ?_
                show AW Γ l mX12_readAtom (d + 1) b 105 [vR 171, vU] [] (stt (upd2 g13 171 13 ((g13 171 13) - 1))) K
                refine aw_aload_n (k' := 0) (by decide +kernel) rfl ?_
                refine aw_bipush (n := 14) (by decide +kernel) (by decide +kernel) ?_
                refine aw_iconst (n := 0) (by decide +kernel) ?_
                refine aw_callV (y := yX12_emits) (M2 := mX12_emits) (as := [vI 14, vI 0]) (S := []) (t := 171) (d2 := d) (b2 := 0) (b3 := b) cwX12_emits mlX12_218 imX12_emits seX12_emits (by decide +kernel) rfl (ci := 10) rfl (OB.at (ci := 10) (show shp 171 = (20, 0) by decide +kernel) (by decide)) (Nat.le_refl _) (Nat.le_of_eq (Nat.zero_add _)) rfl rfl (by simp [oneSlot]) (Nat.le_of_ble_eq_true rfl) (Ct.mono hG ?_)
                rintro o h' (⟨g14, rfl, rfl, hG⟩ | ⟨E, g, rfl, rfl, hG⟩)
                · show AW Γ l mX12_readAtom (d + 1) b 112 [vR 171, vU] [] (stt g14) K
                  refine aw_iconst (n := 1) (by decide +kernel) ?_
                  exact aw_zret (by decide +kernel) rfl rfl hG
                · exact hG
              · have hG := hG.2 hc
                refine aw_iconst (n := 0) (by decide +kernel) ?_
                exact aw_zret (by decide +kernel) rfl rfl hG
            · exact hG
          · have hG := hG.2 hc
            refine aw_iconst (n := 0) (by decide +kernel) ?_
            exact aw_zret (by decide +kernel) rfl rfl hG
      · exact hG
    · have hG := hG.2 hc
      refine aw_aload_n (k' := 0) (by decide +kernel) rfl ?_
      refine gfX12_234 rfl (by decide +kernel) (OB.at (ci := 10) (show shp 171 = (20, 0) by decide +kernel) (by decide)) ?_
      refine aw_bipush (n := 6) (by decide +kernel) (by decide +kernel) ?_
      refine ax_icmp_ne (off := 5) (tgt := 20) (x' := wr (g1 171 13)) (y' := 6) (by decide +kernel) (by decide) rfl (by decide +kernel) (fun hc => ?_) (fun hc => ?_)
      · have hG := hG.1 hc
        refine aw_aload_n (k' := 0) (by decide +kernel) rfl ?_
        refine aw_dup (by decide +kernel) trivial ?_
        refine gfX12_234 rfl (by decide +kernel) (OB.at (ci := 10) (show shp 171 = (20, 0) by decide +kernel) (by decide)) ?_
        refine aw_iconst (n := 1) (by decide +kernel) ?_
        refine aw_iadd (by decide +kernel) ?_
        refine pfX12_234 rfl (by decide +kernel) (OB.at (ci := 10) (show shp 171 = (20, 0) by decide +kernel) (by decide)) ?_
        show AW Γ l mX12_readAtom (d + 1) b 30 [vR 171, vU] [] (stt (upd2 g1 171 13 ((g1 171 13) + 1))) K
        refine aw_aload_n (k' := 0) (by decide +kernel) rfl ?_
        refine aw_callV (y := yX12_readCond) (M2 := mX12_readCond) (as := []) (S := []) (t := 171) (d2 := d) (b2 := 0) (b3 := b) cwX12_readCond mlX12_237 imX12_readCond seX12_readCond (by decide +kernel) rfl (ci := 10) rfl (OB.at (ci := 10) (show shp 171 = (20, 0) by decide +kernel) (by decide)) (Nat.le_refl _) (Nat.le_of_eq (Nat.zero_add _)) rfl rfl (by simp [oneSlot]) (Nat.le_of_ble_eq_true rfl) (Ct.mono hG ?_)
        rintro o h' (⟨v10, g15, rfl, rfl, hG⟩ | ⟨E, g, rfl, rfl, hG⟩)
        · show AW Γ l mX12_readAtom (d + 1) b 34 [vR 171, vU] [vI v10] (stt g15) K
          refine ax_if_ne (off := 5) (tgt := 39) (x' := wr v10) (by decide +kernel) (by decide) rfl (fun hc => ?_) (fun hc => ?_)
          · have hG := hG.1 hc
            refine aw_aload_n (k' := 0) (by decide +kernel) rfl ?_
            refine aw_dup (by decide +kernel) trivial ?_
            refine gfX12_234 rfl (by decide +kernel) (OB.at (ci := 10) (show shp 171 = (20, 0) by decide +kernel) (by decide)) ?_
            refine aw_iconst (n := 1) (by decide +kernel) ?_
            refine aw_isub (by decide +kernel) ?_
            refine pfX12_234 rfl (by decide +kernel) (OB.at (ci := 10) (show shp 171 = (20, 0) by decide +kernel) (by decide)) ?_
            show AW Γ l mX12_readAtom (d + 1) b 49 [vR 171, vU] [] (stt (upd2 g15 171 13 ((g15 171 13) - 1))) K
            refine aw_aload_n (k' := 0) (by decide +kernel) rfl ?_
            refine aw_bipush (n := 41) (by decide +kernel) (by decide +kernel) ?_
            refine aw_callV (y := yX12_sign) (M2 := mX12_sign) (as := [vI 41]) (S := []) (t := 171) (d2 := d) (b2 := 0) (b3 := b) cwX12_sign mlX12_225 imX12_sign seX12_sign (by decide +kernel) rfl (ci := 10) rfl (OB.at (ci := 10) (show shp 171 = (20, 0) by decide +kernel) (by decide)) (Nat.le_refl _) (Nat.le_of_eq (Nat.zero_add _)) rfl rfl (by simp [oneSlot]) (Nat.le_of_ble_eq_true rfl) (Ct.mono hG ?_)
            rintro o h' (⟨v11, g16, rfl, rfl, hG⟩ | ⟨E, g, rfl, rfl, hG⟩)
            · show AW Γ l mX12_readAtom (d + 1) b 55 [vR 171, vU] [vI v11] (stt g16) K
              exact aw_zret (by decide +kernel) rfl (nar_z hG.1) hG.2
            · exact hG
          · have hG := hG.2 hc
            refine aw_iconst (n := 0) (by decide +kernel) ?_
            exact aw_zret (by decide +kernel) rfl rfl hG
        · exact hG
      · have hG := hG.2 hc
        refine aw_iconst (n := 0) (by decide +kernel) ?_
        exact aw_zret (by decide +kernel) rfl rfl hG
  · exact hG

set_option maxHeartbeats 1000000 in
theorem wpX12_readAllOf {Γ : Cfg} {l : Launch} {d b : Nat} {g : GG} {K : Ou → HP → Prop}  (hF : Ct Γ l d 0 yX12_readAtom mX12_readAtom [vR 171] (stt g) (bI (fun v1 g1 => (¬ wr v1 = 0 → AW Γ l mX12_readAllOf (d + 1) b 9 [vR 171] [] (stt g1) K) ∧ (¬ (¬ wr v1 = 0) → K (.inl (vI 0)) (stt g1))) K)) : Ct Γ l (d + 1) b yX12_readAllOf mX12_readAllOf [vR 171] (stt g) K := by
  refine Ct.enter (L := [vR 171]) rfl rfl rfl (by decide +kernel) (by simp [oneSlot]) (Nat.le_of_ble_eq_true rfl) rfl ?_
  refine aw_aload_n (k' := 0) (by decide +kernel) rfl ?_
  refine aw_callV (y := yX12_readAtom) (M2 := mX12_readAtom) (as := []) (S := []) (t := 171) (d2 := d) (b2 := 0) (b3 := b) cwX12_readAtom mlX12_240 imX12_readAtom seX12_readAtom (by decide +kernel) rfl (ci := 10) rfl (OB.at (ci := 10) (show shp 171 = (20, 0) by decide +kernel) (by decide)) (Nat.le_refl _) (Nat.le_of_eq (Nat.zero_add _)) rfl rfl (by simp [oneSlot]) (Nat.le_of_ble_eq_true rfl) (Ct.mono hF ?_)
  rintro o h' (⟨v1, g1, rfl, rfl, hG⟩ | ⟨E, g, rfl, rfl, hG⟩)
  · show AW Γ l mX12_readAllOf (d + 1) b 4 [vR 171] [vI v1] (stt g1) K
    refine ax_if_ne (off := 5) (tgt := 9) (x' := wr v1) (by decide +kernel) (by decide) rfl (fun hc => ?_) (fun hc => ?_)
    · have hG := hG.1 hc
      exact hG
    · have hG := hG.2 hc
      refine aw_iconst (n := 0) (by decide +kernel) ?_
      exact aw_zret (by decide +kernel) rfl rfl hG
  · exact hG
set_option maxHeartbeats 1000000 in
theorem wpX12_readAllOf_9 {Γ : Cfg} {l : Launch} {d b : Nat} {g : GG} {K : Ou → HP → Prop}  (hF : Ct Γ l d 0 yX12_passes mX12_passes [vR 171, vR 2044] (stt g) (bI (fun v1 g1 => (wr v1 = 0 → K (.inl (vI 1)) (stt g1)) ∧ (¬ (wr v1 = 0) → Ct Γ l d 0 yX12_readAtom mX12_readAtom [vR 171] (stt g1) (bI (fun v2 g2 => (¬ wr v2 = 0 → Ct Γ l d 0 yX12_emits mX12_emits [vR 171, vI 15, vI 0] (stt g2) (bV (fun g3 => AW Γ l mX12_readAllOf (d + 1) b 9 [vR 171] [] (stt g3) K) K)) ∧ (¬ (¬ wr v2 = 0) → K (.inl (vI 0)) (stt g2))) K))) K)) : AW Γ l mX12_readAllOf (d + 1) b 9 [vR 171] [] (stt g) K := by
  refine aw_aload_n (k' := 0) (by decide +kernel) rfl ?_
  refine aw_ldcS (idx := 249) (i := 44) (r := 2044) (by decide +kernel) (by decide) (by decide) (by decide +kernel) ?_
  refine aw_callV (y := yX12_passes) (M2 := mX12_passes) (as := [vR 2044]) (S := []) (t := 171) (d2 := d) (b2 := 0) (b3 := b) cwX12_passes mlX12_131 imX12_passes seX12_passes (by decide +kernel) rfl (ci := 10) rfl (OB.at (ci := 10) (show shp 171 = (20, 0) by decide +kernel) (by decide)) (Nat.le_refl _) (Nat.le_of_eq (Nat.zero_add _)) rfl rfl (by simp [oneSlot]) (Nat.le_of_ble_eq_true rfl) (Ct.mono hF ?_)
  rintro o h' (⟨v1, g1, rfl, rfl, hG⟩ | ⟨E, g, rfl, rfl, hG⟩)
  · show AW Γ l mX12_readAllOf (d + 1) b 15 [vR 171] [vI v1] (stt g1) K
    refine ax_if_eq (off := 22) (tgt := 37) (x' := wr v1) (by decide +kernel) (by decide) rfl (fun hc => ?_) (fun hc => ?_)
    · have hG := hG.1 hc
      refine aw_iconst (n := 1) (by decide +kernel) ?_
      exact aw_zret (by decide +kernel) rfl rfl hG
    · have hG := hG.2 hc
      refine aw_aload_n (k' := 0) (by decide +kernel) rfl ?_
      refine aw_callV (y := yX12_readAtom) (M2 := mX12_readAtom) (as := []) (S := []) (t := 171) (d2 := d) (b2 := 0) (b3 := b) cwX12_readAtom mlX12_240 imX12_readAtom seX12_readAtom (by decide +kernel) rfl (ci := 10) rfl (OB.at (ci := 10) (show shp 171 = (20, 0) by decide +kernel) (by decide)) (Nat.le_refl _) (Nat.le_of_eq (Nat.zero_add _)) rfl rfl (by simp [oneSlot]) (Nat.le_of_ble_eq_true rfl) (Ct.mono hG ?_)
      rintro o h' (⟨v2, g2, rfl, rfl, hG⟩ | ⟨E, g, rfl, rfl, hG⟩)
      · show AW Γ l mX12_readAllOf (d + 1) b 22 [vR 171] [vI v2] (stt g2) K
        refine ax_if_ne (off := 5) (tgt := 27) (x' := wr v2) (by decide +kernel) (by decide) rfl (fun hc => ?_) (fun hc => ?_)
        · have hG := hG.1 hc
          refine aw_aload_n (k' := 0) (by decide +kernel) rfl ?_
          refine aw_bipush (n := 15) (by decide +kernel) (by decide +kernel) ?_
          refine aw_iconst (n := 0) (by decide +kernel) ?_
          refine aw_callV (y := yX12_emits) (M2 := mX12_emits) (as := [vI 15, vI 0]) (S := []) (t := 171) (d2 := d) (b2 := 0) (b3 := b) cwX12_emits mlX12_218 imX12_emits seX12_emits (by decide +kernel) rfl (ci := 10) rfl (OB.at (ci := 10) (show shp 171 = (20, 0) by decide +kernel) (by decide)) (Nat.le_refl _) (Nat.le_of_eq (Nat.zero_add _)) rfl rfl (by simp [oneSlot]) (Nat.le_of_ble_eq_true rfl) (Ct.mono hG ?_)
          rintro o h' (⟨g3, rfl, rfl, hG⟩ | ⟨E, g, rfl, rfl, hG⟩)
          · show AW Γ l mX12_readAllOf (d + 1) b 34 [vR 171] [] (stt g3) K
            refine aw_goto (off := -25) (tgt := 9) (by decide +kernel) (by decide) ?_
            exact hG
          · exact hG
        · have hG := hG.2 hc
          refine aw_iconst (n := 0) (by decide +kernel) ?_
          exact aw_zret (by decide +kernel) rfl rfl hG
      · exact hG
  · exact hG

set_option maxHeartbeats 1000000 in
theorem wpX12_readCond {Γ : Cfg} {l : Launch} {d b : Nat} {g : GG} {K : Ou → HP → Prop}  (hF : Ct Γ l d 0 yX12_readAllOf mX12_readAllOf [vR 171] (stt g) (bI (fun v1 g1 => (¬ wr v1 = 0 → AW Γ l mX12_readCond (d + 1) b 9 [vR 171] [] (stt g1) K) ∧ (¬ (¬ wr v1 = 0) → K (.inl (vI 0)) (stt g1))) K)) : Ct Γ l (d + 1) b yX12_readCond mX12_readCond [vR 171] (stt g) K := by
  refine Ct.enter (L := [vR 171]) rfl rfl rfl (by decide +kernel) (by simp [oneSlot]) (Nat.le_of_ble_eq_true rfl) rfl ?_
  refine aw_aload_n (k' := 0) (by decide +kernel) rfl ?_
  refine aw_callV (y := yX12_readAllOf) (M2 := mX12_readAllOf) (as := []) (S := []) (t := 171) (d2 := d) (b2 := 0) (b3 := b) cwX12_readAllOf mlX12_251 imX12_readAllOf seX12_readAllOf (by decide +kernel) rfl (ci := 10) rfl (OB.at (ci := 10) (show shp 171 = (20, 0) by decide +kernel) (by decide)) (Nat.le_refl _) (Nat.le_of_eq (Nat.zero_add _)) rfl rfl (by simp [oneSlot]) (Nat.le_of_ble_eq_true rfl) (Ct.mono hF ?_)
  rintro o h' (⟨v1, g1, rfl, rfl, hG⟩ | ⟨E, g, rfl, rfl, hG⟩)
  · show AW Γ l mX12_readCond (d + 1) b 4 [vR 171] [vI v1] (stt g1) K
    refine ax_if_ne (off := 5) (tgt := 9) (x' := wr v1) (by decide +kernel) (by decide) rfl (fun hc => ?_) (fun hc => ?_)
    · have hG := hG.1 hc
      exact hG
    · have hG := hG.2 hc
      refine aw_iconst (n := 0) (by decide +kernel) ?_
      exact aw_zret (by decide +kernel) rfl rfl hG
  · exact hG
set_option maxHeartbeats 1000000 in
theorem wpX12_readCond_9 {Γ : Cfg} {l : Launch} {d b : Nat} {g : GG} {K : Ou → HP → Prop}  (hF : Ct Γ l d 0 yX12_passes mX12_passes [vR 171, vR 2045] (stt g) (bI (fun v1 g1 => (wr v1 = 0 → K (.inl (vI 1)) (stt g1)) ∧ (¬ (wr v1 = 0) → Ct Γ l d 0 yX12_readAllOf mX12_readAllOf [vR 171] (stt g1) (bI (fun v2 g2 => (¬ wr v2 = 0 → Ct Γ l d 0 yX12_emits mX12_emits [vR 171, vI 16, vI 0] (stt g2) (bV (fun g3 => AW Γ l mX12_readCond (d + 1) b 9 [vR 171] [] (stt g3) K) K)) ∧ (¬ (¬ wr v2 = 0) → K (.inl (vI 0)) (stt g2))) K))) K)) : AW Γ l mX12_readCond (d + 1) b 9 [vR 171] [] (stt g) K := by
  refine aw_aload_n (k' := 0) (by decide +kernel) rfl ?_
  refine aw_ldcS (idx := 254) (i := 45) (r := 2045) (by decide +kernel) (by decide) (by decide) (by decide +kernel) ?_
  refine aw_callV (y := yX12_passes) (M2 := mX12_passes) (as := [vR 2045]) (S := []) (t := 171) (d2 := d) (b2 := 0) (b3 := b) cwX12_passes mlX12_131 imX12_passes seX12_passes (by decide +kernel) rfl (ci := 10) rfl (OB.at (ci := 10) (show shp 171 = (20, 0) by decide +kernel) (by decide)) (Nat.le_refl _) (Nat.le_of_eq (Nat.zero_add _)) rfl rfl (by simp [oneSlot]) (Nat.le_of_ble_eq_true rfl) (Ct.mono hF ?_)
  rintro o h' (⟨v1, g1, rfl, rfl, hG⟩ | ⟨E, g, rfl, rfl, hG⟩)
  · show AW Γ l mX12_readCond (d + 1) b 15 [vR 171] [vI v1] (stt g1) K
    refine ax_if_eq (off := 22) (tgt := 37) (x' := wr v1) (by decide +kernel) (by decide) rfl (fun hc => ?_) (fun hc => ?_)
    · have hG := hG.1 hc
      refine aw_iconst (n := 1) (by decide +kernel) ?_
      exact aw_zret (by decide +kernel) rfl rfl hG
    · have hG := hG.2 hc
      refine aw_aload_n (k' := 0) (by decide +kernel) rfl ?_
      refine aw_callV (y := yX12_readAllOf) (M2 := mX12_readAllOf) (as := []) (S := []) (t := 171) (d2 := d) (b2 := 0) (b3 := b) cwX12_readAllOf mlX12_251 imX12_readAllOf seX12_readAllOf (by decide +kernel) rfl (ci := 10) rfl (OB.at (ci := 10) (show shp 171 = (20, 0) by decide +kernel) (by decide)) (Nat.le_refl _) (Nat.le_of_eq (Nat.zero_add _)) rfl rfl (by simp [oneSlot]) (Nat.le_of_ble_eq_true rfl) (Ct.mono hG ?_)
      rintro o h' (⟨v2, g2, rfl, rfl, hG⟩ | ⟨E, g, rfl, rfl, hG⟩)
      · show AW Γ l mX12_readCond (d + 1) b 22 [vR 171] [vI v2] (stt g2) K
        refine ax_if_ne (off := 5) (tgt := 27) (x' := wr v2) (by decide +kernel) (by decide) rfl (fun hc => ?_) (fun hc => ?_)
        · have hG := hG.1 hc
          refine aw_aload_n (k' := 0) (by decide +kernel) rfl ?_
          refine aw_bipush (n := 16) (by decide +kernel) (by decide +kernel) ?_
          refine aw_iconst (n := 0) (by decide +kernel) ?_
          refine aw_callV (y := yX12_emits) (M2 := mX12_emits) (as := [vI 16, vI 0]) (S := []) (t := 171) (d2 := d) (b2 := 0) (b3 := b) cwX12_emits mlX12_218 imX12_emits seX12_emits (by decide +kernel) rfl (ci := 10) rfl (OB.at (ci := 10) (show shp 171 = (20, 0) by decide +kernel) (by decide)) (Nat.le_refl _) (Nat.le_of_eq (Nat.zero_add _)) rfl rfl (by simp [oneSlot]) (Nat.le_of_ble_eq_true rfl) (Ct.mono hG ?_)
          rintro o h' (⟨g3, rfl, rfl, hG⟩ | ⟨E, g, rfl, rfl, hG⟩)
          · show AW Γ l mX12_readCond (d + 1) b 34 [vR 171] [] (stt g3) K
            refine aw_goto (off := -25) (tgt := 9) (by decide +kernel) (by decide) ?_
            exact hG
          · exact hG
        · have hG := hG.2 hc
          refine aw_iconst (n := 0) (by decide +kernel) ?_
          exact aw_zret (by decide +kernel) rfl rfl hG
      · exact hG
  · exact hG

set_option maxHeartbeats 1000000 in
theorem wpX12_readLawLine {Γ : Cfg} {l : Launch} {d b : Nat} {g : GG} {K : Ou → HP → Prop} {x1 : Int} (hF : Ct Γ l d 0 yX12_isWord mX12_isWord [vR 171, vR 2033] (stt g) (bI (fun v1 g1 => (wr v1 = 0 → Ct Γ l d 0 yX12_isWord mX12_isWord [vR 171, vR 2034] (stt g1) (bI (fun v2 g2 => (wr v2 = 0 → Ct Γ l d 0 yX12_isWord mX12_isWord [vR 171, vR 2035] (stt g2) (bI (fun v3 g3 => (wr v3 = 0 → AW Γ l mX12_readLawLine (d + 1) b 56 [vR 171, vI x1, vI (1336 + (4 * x1))] [vI (-1), vI (1336 + (4 * x1)), vR 172] (stt g3) K) ∧ (¬ (wr v3 = 0) → AW Γ l mX12_readLawLine (d + 1) b 56 [vR 171, vI x1, vI (1336 + (4 * x1))] [vI 2, vI (1336 + (4 * x1)), vR 172] (stt g3) K)) K)) ∧ (¬ (wr v2 = 0) → AW Γ l mX12_readLawLine (d + 1) b 56 [vR 171, vI x1, vI (1336 + (4 * x1))] [vI 1, vI (1336 + (4 * x1)), vR 172] (stt g2) K)) K)) ∧ (¬ (wr v1 = 0) → AW Γ l mX12_readLawLine (d + 1) b 56 [vR 171, vI x1, vI (1336 + (4 * x1))] [vI 0, vI (1336 + (4 * x1)), vR 172] (stt g1) K)) K)) : Ct Γ l (d + 1) b yX12_readLawLine mX12_readLawLine [vR 171, vI x1] (stt g) K := by
  refine Ct.enter (L := [vR 171, vI x1, vU]) rfl rfl rfl (by decide +kernel) (by simp [oneSlot]) (Nat.le_of_ble_eq_true rfl) rfl ?_
  refine aw_sipush (n := 1336) (by decide +kernel) (by decide +kernel) ?_
  refine aw_iconst (n := 4) (by decide +kernel) ?_
  refine aw_iload_n (k' := 1) (by decide +kernel) rfl ?_
  refine aw_imul (by decide +kernel) ?_
  refine aw_iadd (by decide +kernel) ?_
  refine aw_istore_n (k' := 2) (by decide +kernel) (by decide) ?_
  show AW Γ l mX12_readLawLine (d + 1) b 8 [vR 171, vI x1, vI (1336 + (4 * x1))] [] (stt g) K
  refine aw_aload_n (k' := 0) (by decide +kernel) rfl ?_
  refine gfX12_13 rfl (by decide +kernel) (OB.at (ci := 10) (show shp 171 = (20, 0) by decide +kernel) (by decide)) ?_
  refine AW.topR (show RC 171 1 = 172 by decide +kernel) ?_
  refine aw_iload_n (k' := 2) (by decide +kernel) rfl ?_
  refine aw_aload_n (k' := 0) (by decide +kernel) rfl ?_
  refine aw_ldcSw (idx := 256) (i := 33) (r := 2033) (by decide +kernel) (by decide) (by decide) (by decide +kernel) ?_
  refine aw_callV (y := yX12_isWord) (M2 := mX12_isWord) (as := [vR 2033]) (S := [vI (1336 + (4 * x1)), vR 172]) (t := 171) (d2 := d) (b2 := 0) (b3 := b) cwX12_isWord mlX12_127 imX12_isWord seX12_isWord (by decide +kernel) rfl (ci := 10) rfl (OB.at (ci := 10) (show shp 171 = (20, 0) by decide +kernel) (by decide)) (Nat.le_refl _) (Nat.le_of_eq (Nat.zero_add _)) rfl rfl (by simp [oneSlot]) (Nat.le_of_ble_eq_true rfl) (Ct.mono hF ?_)
  rintro o h' (⟨v1, g1, rfl, rfl, hG⟩ | ⟨E, g, rfl, rfl, hG⟩)
  · show AW Γ l mX12_readLawLine (d + 1) b 20 [vR 171, vI x1, vI (1336 + (4 * x1))] [vI v1, vI (1336 + (4 * x1)), vR 172] (stt g1) K
    refine ax_if_eq (off := 7) (tgt := 27) (x' := wr v1) (by decide +kernel) (by decide) rfl (fun hc => ?_) (fun hc => ?_)
    · have hG := hG.1 hc
      refine aw_aload_n (k' := 0) (by decide +kernel) rfl ?_
      refine aw_ldcSw (idx := 258) (i := 34) (r := 2034) (by decide +kernel) (by decide) (by decide) (by decide +kernel) ?_
      refine aw_callV (y := yX12_isWord) (M2 := mX12_isWord) (as := [vR 2034]) (S := [vI (1336 + (4 * x1)), vR 172]) (t := 171) (d2 := d) (b2 := 0) (b3 := b) cwX12_isWord mlX12_127 imX12_isWord seX12_isWord (by decide +kernel) rfl (ci := 10) rfl (OB.at (ci := 10) (show shp 171 = (20, 0) by decide +kernel) (by decide)) (Nat.le_refl _) (Nat.le_of_eq (Nat.zero_add _)) rfl rfl (by simp [oneSlot]) (Nat.le_of_ble_eq_true rfl) (Ct.mono hG ?_)
      rintro o h' (⟨v2, g2, rfl, rfl, hG⟩ | ⟨E, g, rfl, rfl, hG⟩)
      · show AW Γ l mX12_readLawLine (d + 1) b 34 [vR 171, vI x1, vI (1336 + (4 * x1))] [vI v2, vI (1336 + (4 * x1)), vR 172] (stt g2) K
        refine ax_if_eq (off := 7) (tgt := 41) (x' := wr v2) (by decide +kernel) (by decide) rfl (fun hc => ?_) (fun hc => ?_)
        · have hG := hG.1 hc
          refine aw_aload_n (k' := 0) (by decide +kernel) rfl ?_
          refine aw_ldcSw (idx := 260) (i := 35) (r := 2035) (by decide +kernel) (by decide) (by decide) (by decide +kernel) ?_
          refine aw_callV (y := yX12_isWord) (M2 := mX12_isWord) (as := [vR 2035]) (S := [vI (1336 + (4 * x1)), vR 172]) (t := 171) (d2 := d) (b2 := 0) (b3 := b) cwX12_isWord mlX12_127 imX12_isWord seX12_isWord (by decide +kernel) rfl (ci := 10) rfl (OB.at (ci := 10) (show shp 171 = (20, 0) by decide +kernel) (by decide)) (Nat.le_refl _) (Nat.le_of_eq (Nat.zero_add _)) rfl rfl (by simp [oneSlot]) (Nat.le_of_ble_eq_true rfl) (Ct.mono hG ?_)
          rintro o h' (⟨v3, g3, rfl, rfl, hG⟩ | ⟨E, g, rfl, rfl, hG⟩)
          · show AW Γ l mX12_readLawLine (d + 1) b 48 [vR 171, vI x1, vI (1336 + (4 * x1))] [vI v3, vI (1336 + (4 * x1)), vR 172] (stt g3) K
            refine ax_if_eq (off := 7) (tgt := 55) (x' := wr v3) (by decide +kernel) (by decide) rfl (fun hc => ?_) (fun hc => ?_)
            · have hG := hG.1 hc
              refine aw_iconst (n := -1) (by decide +kernel) ?_
              exact hG
            · have hG := hG.2 hc
              refine aw_iconst (n := 2) (by decide +kernel) ?_
              refine aw_goto (off := 4) (tgt := 56) (by decide +kernel) (by decide) ?_
              exact hG
          · exact hG
        · have hG := hG.2 hc
          refine aw_iconst (n := 1) (by decide +kernel) ?_
          refine aw_goto (off := 18) (tgt := 56) (by decide +kernel) (by decide) ?_
          exact hG
      · exact hG
    · have hG := hG.2 hc
      refine aw_iconst (n := 0) (by decide +kernel) ?_
      refine aw_goto (off := 32) (tgt := 56) (by decide +kernel) (by decide) ?_
      exact hG
  · exact hG
set_option maxHeartbeats 1000000 in
theorem wpX12_readLawLine_56 {Γ : Cfg} {l : Launch} {d b : Nat} {g : GG} {K : Ou → HP → Prop} {x1 : Int} {y2 : Int} {s0 : Int} {s1 : Int} (hF : (0 ≤ wr s1 ∧ wr s1 < 2184) ∧ ((0 ≤ wr y2 ∧ wr y2 < 2184) ∧ ((0 ≤ wr ((upd2 g 172 (wr s1) s0) 172 (wr y2)) → Ct Γ l d 0 yX12_number mX12_number [vR 171, vI 0, vI 40] (stt (upd2 g 172 (wr s1) s0)) (bI (fun v1 g1 => (0 ≤ wr (y2 + 1) ∧ wr (y2 + 1) < 2184) ∧ ((0 ≤ wr (y2 + 1) ∧ wr (y2 + 1) < 2184) ∧ ((0 ≤ wr ((upd2 g1 172 (wr (y2 + 1)) v1) 172 (wr (y2 + 1))) → (0 ≤ wr (y2 + 2) ∧ wr (y2 + 2) < 2184) ∧ (∀ g2 : GG, g2 = upd2 (upd2 g1 172 (wr (y2 + 1)) v1) 172 (wr (y2 + 2)) ((upd2 g1 172 (wr (y2 + 1)) v1) 171 17) → Ct Γ l d 0 yX12_passes mX12_passes [vR 171, vR 2021] (stt (upd2 g2 171 13 0)) (bI (fun v2 g3 => (wr v2 = 0 → (0 ≤ wr (y2 + 3) ∧ wr (y2 + 3) < 2184) ∧ (∀ g4 : GG, g4 = upd2 g3 172 (wr (y2 + 3)) (g3 171 17) → K (.inl (vI 1)) (stt g4))) ∧ (¬ (wr v2 = 0) → Ct Γ l d 0 yX12_readCond mX12_readCond [vR 171] (stt g3) (bI (fun v3 g5 => (¬ wr v3 = 0 → (0 ≤ wr (y2 + 3) ∧ wr (y2 + 3) < 2184) ∧ (∀ g6 : GG, g6 = upd2 g5 172 (wr (y2 + 3)) (g5 171 17) → K (.inl (vI 1)) (stt g6))) ∧ (¬ (¬ wr v3 = 0) → K (.inl (vI 0)) (stt g5))) K))) K))) ∧ (¬ (0 ≤ wr ((upd2 g1 172 (wr (y2 + 1)) v1) 172 (wr (y2 + 1)))) → K (.inl (vI 0)) (stt (upd2 g1 172 (wr (y2 + 1)) v1)))))) K)) ∧ (¬ (0 ≤ wr ((upd2 g 172 (wr s1) s0) 172 (wr y2))) → K (.inl (vI 0)) (stt (upd2 g 172 (wr s1) s0)))))) : AW Γ l mX12_readLawLine (d + 1) b 56 [vR 171, vI x1, vI y2] [vI s0, vI s1, vR 172] (stt g) K := by
  refine ax_iast (i := wr s1) (by decide +kernel) (isA_lit (show shp 172 = (0, 2184) by decide +kernel) (by decide)) rfl hF.1 ?_
  show AW Γ l mX12_readLawLine (d + 1) b 57 [vR 171, vI x1, vI y2] [] (stt (upd2 g 172 (wr s1) s0)) K
  replace hF := hF.2
  refine aw_aload_n (k' := 0) (by decide +kernel) rfl ?_
  refine gfX12_13 rfl (by decide +kernel) (OB.at (ci := 10) (show shp 171 = (20, 0) by decide +kernel) (by decide)) ?_
  refine AW.topR (show RC 171 1 = 172 by decide +kernel) ?_
  refine aw_iload_n (k' := 2) (by decide +kernel) rfl ?_
  refine ax_iald (i := wr y2) (by decide +kernel) (isA_lit (show shp 172 = (0, 2184) by decide +kernel) (by decide)) rfl hF.1 ?_
  replace hF := hF.2
  refine ax_if_ge (off := 5) (tgt := 68) (x' := wr ((upd2 g 172 (wr s1) s0) 172 (wr y2))) (by decide +kernel) (by decide) rfl (fun hc => ?_) (fun hc => ?_)
  · have hF := hF.1 hc
    refine aw_aload_n (k' := 0) (by decide +kernel) rfl ?_
    refine gfX12_13 rfl (by decide +kernel) (OB.at (ci := 10) (show shp 171 = (20, 0) by decide +kernel) (by decide)) ?_
    refine AW.topR (show RC 171 1 = 172 by decide +kernel) ?_
    refine aw_iload_n (k' := 2) (by decide +kernel) rfl ?_
    refine aw_iconst (n := 1) (by decide +kernel) ?_
    refine aw_iadd (by decide +kernel) ?_
    refine aw_aload_n (k' := 0) (by decide +kernel) rfl ?_
    refine aw_iconst (n := 0) (by decide +kernel) ?_
    refine aw_bipush (n := 40) (by decide +kernel) (by decide +kernel) ?_
    refine aw_callV (y := yX12_number) (M2 := mX12_number) (as := [vI 0, vI 40]) (S := [vI (y2 + 1), vR 172]) (t := 171) (d2 := d) (b2 := 0) (b3 := b) cwX12_number mlX12_134 imX12_number seX12_number (by decide +kernel) rfl (ci := 10) rfl (OB.at (ci := 10) (show shp 171 = (20, 0) by decide +kernel) (by decide)) (Nat.le_refl _) (Nat.le_of_eq (Nat.zero_add _)) rfl rfl (by simp [oneSlot]) (Nat.le_of_ble_eq_true rfl) (Ct.mono hF ?_)
    rintro o h' (⟨v1, g1, rfl, rfl, hG⟩ | ⟨E, g, rfl, rfl, hG⟩)
    · show AW Γ l mX12_readLawLine (d + 1) b 82 [vR 171, vI x1, vI y2] [vI v1, vI (y2 + 1), vR 172] (stt g1) K
      refine ax_iast (i := wr (y2 + 1)) (by decide +kernel) (isA_lit (show shp 172 = (0, 2184) by decide +kernel) (by decide)) rfl hG.1 ?_
      show AW Γ l mX12_readLawLine (d + 1) b 83 [vR 171, vI x1, vI y2] [] (stt (upd2 g1 172 (wr (y2 + 1)) v1)) K
      replace hG := hG.2
      refine aw_aload_n (k' := 0) (by decide +kernel) rfl ?_
      refine gfX12_13 rfl (by decide +kernel) (OB.at (ci := 10) (show shp 171 = (20, 0) by decide +kernel) (by decide)) ?_
      refine AW.topR (show RC 171 1 = 172 by decide +kernel) ?_
      refine aw_iload_n (k' := 2) (by decide +kernel) rfl ?_
      refine aw_iconst (n := 1) (by decide +kernel) ?_
      refine aw_iadd (by decide +kernel) ?_
      refine ax_iald (i := wr (y2 + 1)) (by decide +kernel) (isA_lit (show shp 172 = (0, 2184) by decide +kernel) (by decide)) rfl hG.1 ?_
      replace hG := hG.2
      refine ax_if_ge (off := 5) (tgt := 96) (x' := wr ((upd2 g1 172 (wr (y2 + 1)) v1) 172 (wr (y2 + 1)))) (by decide +kernel) (by decide) rfl (fun hc => ?_) (fun hc => ?_)
      · have hG := hG.1 hc
        refine aw_aload_n (k' := 0) (by decide +kernel) rfl ?_
        refine gfX12_13 rfl (by decide +kernel) (OB.at (ci := 10) (show shp 171 = (20, 0) by decide +kernel) (by decide)) ?_
        refine AW.topR (show RC 171 1 = 172 by decide +kernel) ?_
        refine aw_iload_n (k' := 2) (by decide +kernel) rfl ?_
        refine aw_iconst (n := 2) (by decide +kernel) ?_
        refine aw_iadd (by decide +kernel) ?_
        refine aw_aload_n (k' := 0) (by decide +kernel) rfl ?_
        refine gfX12_202 rfl (by decide +kernel) (OB.at (ci := 10) (show shp 171 = (20, 0) by decide +kernel) (by decide)) ?_
        refine ax_iast (i := wr (y2 + 2)) (by decide +kernel) (isA_lit (show shp 172 = (0, 2184) by decide +kernel) (by decide)) rfl hG.1 ?_
        show AW Γ l mX12_readLawLine (d + 1) b 108 [vR 171, vI x1, vI y2] [] (stt (upd2 (upd2 g1 172 (wr (y2 + 1)) v1) 172 (wr (y2 + 2)) ((upd2 g1 172 (wr (y2 + 1)) v1) 171 17))) K
        replace hG := hG.2
        show AW Γ l mX12_readLawLine (d + 1) b 108 [vR 171, vI x1, vI y2] [] (stt (upd2 (upd2 g1 172 (wr (y2 + 1)) v1) 172 (wr (y2 + 2)) ((upd2 g1 172 (wr (y2 + 1)) v1) 171 17))) K
        generalize eg2 : upd2 (upd2 g1 172 (wr (y2 + 1)) v1) 172 (wr (y2 + 2)) ((upd2 g1 172 (wr (y2 + 1)) v1) 171 17) = g2
        replace hG := hG g2 eg2.symm
        refine aw_aload_n (k' := 0) (by decide +kernel) rfl ?_
        refine aw_iconst (n := 0) (by decide +kernel) ?_
        refine pfX12_234 rfl (by decide +kernel) (OB.at (ci := 10) (show shp 171 = (20, 0) by decide +kernel) (by decide)) ?_
        show AW Γ l mX12_readLawLine (d + 1) b 113 [vR 171, vI x1, vI y2] [] (stt (upd2 g2 171 13 0)) K
        refine aw_aload_n (k' := 0) (by decide +kernel) rfl ?_
        refine aw_ldcS (idx := 146) (i := 21) (r := 2021) (by decide +kernel) (by decide) (by decide) (by decide +kernel) ?_
        refine aw_callV (y := yX12_passes) (M2 := mX12_passes) (as := [vR 2021]) (S := []) (t := 171) (d2 := d) (b2 := 0) (b3 := b) cwX12_passes mlX12_131 imX12_passes seX12_passes (by decide +kernel) rfl (ci := 10) rfl (OB.at (ci := 10) (show shp 171 = (20, 0) by decide +kernel) (by decide)) (Nat.le_refl _) (Nat.le_of_eq (Nat.zero_add _)) rfl rfl (by simp [oneSlot]) (Nat.le_of_ble_eq_true rfl) (Ct.mono hG ?_)
        rintro o h' (⟨v2, g3, rfl, rfl, hG⟩ | ⟨E, g, rfl, rfl, hG⟩)
        · show AW Γ l mX12_readLawLine (d + 1) b 119 [vR 171, vI x1, vI y2] [vI v2] (stt g3) K
          refine ax_if_eq (off := 12) (tgt := 131) (x' := wr v2) (by decide +kernel) (by decide) rfl (fun hc => ?_) (fun hc => ?_)
          · have hG := hG.1 hc
            refine aw_aload_n (k' := 0) (by decide +kernel) rfl ?_
            refine gfX12_13 rfl (by decide +kernel) (OB.at (ci := 10) (show shp 171 = (20, 0) by decide +kernel) (by decide)) ?_
            refine AW.topR (show RC 171 1 = 172 by decide +kernel) ?_
            refine aw_iload_n (k' := 2) (by decide +kernel) rfl ?_
            refine aw_iconst (n := 3) (by decide +kernel) ?_
            refine aw_iadd (by decide +kernel) ?_
            refine aw_aload_n (k' := 0) (by decide +kernel) rfl ?_
            refine gfX12_202 rfl (by decide +kernel) (OB.at (ci := 10) (show shp 171 = (20, 0) by decide +kernel) (by decide)) ?_
            refine ax_iast (i := wr (y2 + 3)) (by decide +kernel) (isA_lit (show shp 172 = (0, 2184) by decide +kernel) (by decide)) rfl hG.1 ?_
            show AW Γ l mX12_readLawLine (d + 1) b 143 [vR 171, vI x1, vI y2] [] (stt (upd2 g3 172 (wr (y2 + 3)) (g3 171 17))) K
            replace hG := hG.2
            show AW Γ l mX12_readLawLine (d + 1) b 143 [vR 171, vI x1, vI y2] [] (stt (upd2 g3 172 (wr (y2 + 3)) (g3 171 17))) K
            generalize eg4 : upd2 g3 172 (wr (y2 + 3)) (g3 171 17) = g4
            replace hG := hG g4 eg4.symm
            refine aw_iconst (n := 1) (by decide +kernel) ?_
            exact aw_zret (by decide +kernel) rfl rfl hG
          · have hG := hG.2 hc
            refine aw_aload_n (k' := 0) (by decide +kernel) rfl ?_
            refine aw_callV (y := yX12_readCond) (M2 := mX12_readCond) (as := []) (S := []) (t := 171) (d2 := d) (b2 := 0) (b3 := b) cwX12_readCond mlX12_237 imX12_readCond seX12_readCond (by decide +kernel) rfl (ci := 10) rfl (OB.at (ci := 10) (show shp 171 = (20, 0) by decide +kernel) (by decide)) (Nat.le_refl _) (Nat.le_of_eq (Nat.zero_add _)) rfl rfl (by simp [oneSlot]) (Nat.le_of_ble_eq_true rfl) (Ct.mono hG ?_)
            rintro o h' (⟨v3, g5, rfl, rfl, hG⟩ | ⟨E, g, rfl, rfl, hG⟩)
            · show AW Γ l mX12_readLawLine (d + 1) b 126 [vR 171, vI x1, vI y2] [vI v3] (stt g5) K
              refine ax_if_ne (off := 5) (tgt := 131) (x' := wr v3) (by decide +kernel) (by decide) rfl (fun hc => ?_) (fun hc => ?_)
              · have hG := hG.1 hc
                refine aw_aload_n (k' := 0) (by decide +kernel) rfl ?_
                refine gfX12_13 rfl (by decide +kernel) (OB.at (ci := 10) (show shp 171 = (20, 0) by decide +kernel) (by decide)) ?_
                refine AW.topR (show RC 171 1 = 172 by decide +kernel) ?_
                refine aw_iload_n (k' := 2) (by decide +kernel) rfl ?_
                refine aw_iconst (n := 3) (by decide +kernel) ?_
                refine aw_iadd (by decide +kernel) ?_
                refine aw_aload_n (k' := 0) (by decide +kernel) rfl ?_
                refine gfX12_202 rfl (by decide +kernel) (OB.at (ci := 10) (show shp 171 = (20, 0) by decide +kernel) (by decide)) ?_
                refine ax_iast (i := wr (y2 + 3)) (by decide +kernel) (isA_lit (show shp 172 = (0, 2184) by decide +kernel) (by decide)) rfl hG.1 ?_
                show AW Γ l mX12_readLawLine (d + 1) b 143 [vR 171, vI x1, vI y2] [] (stt (upd2 g5 172 (wr (y2 + 3)) (g5 171 17))) K
                replace hG := hG.2
                show AW Γ l mX12_readLawLine (d + 1) b 143 [vR 171, vI x1, vI y2] [] (stt (upd2 g5 172 (wr (y2 + 3)) (g5 171 17))) K
                generalize eg6 : upd2 g5 172 (wr (y2 + 3)) (g5 171 17) = g6
                replace hG := hG g6 eg6.symm
                refine aw_iconst (n := 1) (by decide +kernel) ?_
                exact aw_zret (by decide +kernel) rfl rfl hG
              · have hG := hG.2 hc
                refine aw_iconst (n := 0) (by decide +kernel) ?_
                exact aw_zret (by decide +kernel) rfl rfl hG
            · exact hG
        · exact hG
      · have hG := hG.2 hc
        refine aw_iconst (n := 0) (by decide +kernel) ?_
        exact aw_zret (by decide +kernel) rfl rfl hG
    · exact hG
  · have hF := hF.2 hc
    refine aw_iconst (n := 0) (by decide +kernel) ?_
    exact aw_zret (by decide +kernel) rfl rfl hF

set_option maxHeartbeats 1000000 in
theorem wpX12_readLine {Γ : Cfg} {l : Launch} {d b : Nat} {g : GG} {K : Ou → HP → Prop} {x1 : Int} {x2 : Int} (hF : Ct Γ l d 0 yX12_letters mX12_letters [vR 171] (stt g) (bV (fun g1 => (wr x1 = 0 → (12 ≤ wr x2 → K (.inl (vI 0)) (stt g1)) ∧ (¬ (12 ≤ wr x2) → (wr x1 = 0 → Ct Γ l d 0 yX12_readLawLine mX12_readLawLine [vR 171, vI x2] (stt g1) (bI (fun v1 g2 => (wr v1 = 0 → K (.inl (vI 0)) (stt g2)) ∧ (¬ (wr v1 = 0) → K (.inl (vI 1)) (stt g2))) K)) ∧ (¬ (wr x1 = 0) → Ct Γ l d 0 yX12_readHillsLine mX12_readHillsLine [vR 171] (stt g1) (bI (fun v2 g3 => (wr v2 = 0 → K (.inl (vI 0)) (stt g3)) ∧ (¬ (wr v2 = 0) → K (.inl (vI 1)) (stt g3))) K)))) ∧ (¬ (wr x1 = 0) → (14 ≤ wr x2 → K (.inl (vI 0)) (stt g1)) ∧ (¬ (14 ≤ wr x2) → (wr x1 = 0 → Ct Γ l d 0 yX12_readLawLine mX12_readLawLine [vR 171, vI x2] (stt g1) (bI (fun v3 g4 => (wr v3 = 0 → K (.inl (vI 0)) (stt g4)) ∧ (¬ (wr v3 = 0) → K (.inl (vI 1)) (stt g4))) K)) ∧ (¬ (wr x1 = 0) → Ct Γ l d 0 yX12_readHillsLine mX12_readHillsLine [vR 171] (stt g1) (bI (fun v4 g5 => (wr v4 = 0 → K (.inl (vI 0)) (stt g5)) ∧ (¬ (wr v4 = 0) → K (.inl (vI 1)) (stt g5))) K))))) K)) : Ct Γ l (d + 1) b yX12_readLine mX12_readLine [vR 171, vI x1, vI x2] (stt g) K := by
  refine Ct.enter (L := [vR 171, vI x1, vI x2]) rfl rfl rfl (by decide +kernel) (by simp [oneSlot]) (Nat.le_of_ble_eq_true rfl) rfl ?_
  refine aw_aload_n (k' := 0) (by decide +kernel) rfl ?_
  refine aw_callV (y := yX12_letters) (M2 := mX12_letters) (as := []) (S := []) (t := 171) (d2 := d) (b2 := 0) (b3 := b) cwX12_letters mlX12_124 imX12_letters seX12_letters (by decide +kernel) rfl (ci := 10) rfl (OB.at (ci := 10) (show shp 171 = (20, 0) by decide +kernel) (by decide)) (Nat.le_refl _) (Nat.le_of_eq (Nat.zero_add _)) rfl rfl (by simp [oneSlot]) (Nat.le_of_ble_eq_true rfl) (Ct.mono hF ?_)
  rintro o h' (⟨g1, rfl, rfl, hG⟩ | ⟨E, g, rfl, rfl, hG⟩)
  · show AW Γ l mX12_readLine (d + 1) b 4 [vR 171, vI x1, vI x2] [] (stt g1) K
    refine aw_iload_n (k' := 2) (by decide +kernel) rfl ?_
    refine aw_iload_n (k' := 1) (by decide +kernel) rfl ?_
    refine ax_if_eq (off := 8) (tgt := 14) (x' := wr x1) (by decide +kernel) (by decide) rfl (fun hc => ?_) (fun hc => ?_)
    · have hG := hG.1 hc
      refine aw_bipush (n := 12) (by decide +kernel) (by decide +kernel) ?_
      refine ax_icmp_ge (off := 29) (tgt := 45) (x' := wr x2) (y' := 12) (by decide +kernel) (by decide) rfl (by decide +kernel) (fun hc => ?_) (fun hc => ?_)
      · have hG := hG.1 hc
        refine aw_iconst (n := 0) (by decide +kernel) ?_
        exact aw_zret (by decide +kernel) rfl rfl hG
      · have hG := hG.2 hc
        refine aw_iload_n (k' := 1) (by decide +kernel) rfl ?_
        refine ax_if_eq (off := 13) (tgt := 33) (x' := wr x1) (by decide +kernel) (by decide) rfl (fun hc => ?_) (fun hc => ?_)
        · have hG := hG.1 hc
          refine aw_aload_n (k' := 0) (by decide +kernel) rfl ?_
          refine aw_iload_n (k' := 2) (by decide +kernel) rfl ?_
          refine aw_callV (y := yX12_readLawLine) (M2 := mX12_readLawLine) (as := [vI x2]) (S := []) (t := 171) (d2 := d) (b2 := 0) (b3 := b) cwX12_readLawLine mlX12_265 imX12_readLawLine seX12_readLawLine (by decide +kernel) rfl (ci := 10) rfl (OB.at (ci := 10) (show shp 171 = (20, 0) by decide +kernel) (by decide)) (Nat.le_refl _) (Nat.le_of_eq (Nat.zero_add _)) rfl rfl (by simp [oneSlot]) (Nat.le_of_ble_eq_true rfl) (Ct.mono hG ?_)
          rintro o h' (⟨v1, g2, rfl, rfl, hG⟩ | ⟨E, g, rfl, rfl, hG⟩)
          · show AW Γ l mX12_readLine (d + 1) b 38 [vR 171, vI x1, vI x2] [vI v1] (stt g2) K
            refine ax_if_eq (off := 7) (tgt := 45) (x' := wr v1) (by decide +kernel) (by decide) rfl (fun hc => ?_) (fun hc => ?_)
            · have hG := hG.1 hc
              refine aw_iconst (n := 0) (by decide +kernel) ?_
              exact aw_zret (by decide +kernel) rfl rfl hG
            · have hG := hG.2 hc
              refine aw_iconst (n := 1) (by decide +kernel) ?_
              refine aw_goto (off := 4) (tgt := 46) (by decide +kernel) (by decide) ?_
              exact aw_zret (by decide +kernel) rfl rfl hG
          · exact hG
        · have hG := hG.2 hc
          refine aw_aload_n (k' := 0) (by decide +kernel) rfl ?_
          refine aw_callV (y := yX12_readHillsLine) (M2 := mX12_readHillsLine) (as := []) (S := []) (t := 171) (d2 := d) (b2 := 0) (b3 := b) cwX12_readHillsLine mlX12_262 imX12_readHillsLine seX12_readHillsLine (by decide +kernel) rfl (ci := 10) rfl (OB.at (ci := 10) (show shp 171 = (20, 0) by decide +kernel) (by decide)) (Nat.le_refl _) (Nat.le_of_eq (Nat.zero_add _)) rfl rfl (by simp [oneSlot]) (Nat.le_of_ble_eq_true rfl) (Ct.mono hG ?_)
          rintro o h' (⟨v2, g3, rfl, rfl, hG⟩ | ⟨E, g, rfl, rfl, hG⟩)
          · show AW Γ l mX12_readLine (d + 1) b 27 [vR 171, vI x1, vI x2] [vI v2] (stt g3) K
            refine ax_if_eq (off := 18) (tgt := 45) (x' := wr v2) (by decide +kernel) (by decide) rfl (fun hc => ?_) (fun hc => ?_)
            · have hG := hG.1 hc
              refine aw_iconst (n := 0) (by decide +kernel) ?_
              exact aw_zret (by decide +kernel) rfl rfl hG
            · have hG := hG.2 hc
              refine aw_goto (off := 11) (tgt := 41) (by decide +kernel) (by decide) ?_
              refine aw_iconst (n := 1) (by decide +kernel) ?_
              refine aw_goto (off := 4) (tgt := 46) (by decide +kernel) (by decide) ?_
              exact aw_zret (by decide +kernel) rfl rfl hG
          · exact hG
    · have hG := hG.2 hc
      refine aw_bipush (n := 14) (by decide +kernel) (by decide +kernel) ?_
      refine aw_goto (off := 5) (tgt := 16) (by decide +kernel) (by decide) ?_
      refine ax_icmp_ge (off := 29) (tgt := 45) (x' := wr x2) (y' := 14) (by decide +kernel) (by decide) rfl (by decide +kernel) (fun hc => ?_) (fun hc => ?_)
      · have hG := hG.1 hc
        refine aw_iconst (n := 0) (by decide +kernel) ?_
        exact aw_zret (by decide +kernel) rfl rfl hG
      · have hG := hG.2 hc
        refine aw_iload_n (k' := 1) (by decide +kernel) rfl ?_
        refine ax_if_eq (off := 13) (tgt := 33) (x' := wr x1) (by decide +kernel) (by decide) rfl (fun hc => ?_) (fun hc => ?_)
        · have hG := hG.1 hc
          refine aw_aload_n (k' := 0) (by decide +kernel) rfl ?_
          refine aw_iload_n (k' := 2) (by decide +kernel) rfl ?_
          refine aw_callV (y := yX12_readLawLine) (M2 := mX12_readLawLine) (as := [vI x2]) (S := []) (t := 171) (d2 := d) (b2 := 0) (b3 := b) cwX12_readLawLine mlX12_265 imX12_readLawLine seX12_readLawLine (by decide +kernel) rfl (ci := 10) rfl (OB.at (ci := 10) (show shp 171 = (20, 0) by decide +kernel) (by decide)) (Nat.le_refl _) (Nat.le_of_eq (Nat.zero_add _)) rfl rfl (by simp [oneSlot]) (Nat.le_of_ble_eq_true rfl) (Ct.mono hG ?_)
          rintro o h' (⟨v3, g4, rfl, rfl, hG⟩ | ⟨E, g, rfl, rfl, hG⟩)
          · show AW Γ l mX12_readLine (d + 1) b 38 [vR 171, vI x1, vI x2] [vI v3] (stt g4) K
            refine ax_if_eq (off := 7) (tgt := 45) (x' := wr v3) (by decide +kernel) (by decide) rfl (fun hc => ?_) (fun hc => ?_)
            · have hG := hG.1 hc
              refine aw_iconst (n := 0) (by decide +kernel) ?_
              exact aw_zret (by decide +kernel) rfl rfl hG
            · have hG := hG.2 hc
              refine aw_iconst (n := 1) (by decide +kernel) ?_
              refine aw_goto (off := 4) (tgt := 46) (by decide +kernel) (by decide) ?_
              exact aw_zret (by decide +kernel) rfl rfl hG
          · exact hG
        · have hG := hG.2 hc
          refine aw_aload_n (k' := 0) (by decide +kernel) rfl ?_
          refine aw_callV (y := yX12_readHillsLine) (M2 := mX12_readHillsLine) (as := []) (S := []) (t := 171) (d2 := d) (b2 := 0) (b3 := b) cwX12_readHillsLine mlX12_262 imX12_readHillsLine seX12_readHillsLine (by decide +kernel) rfl (ci := 10) rfl (OB.at (ci := 10) (show shp 171 = (20, 0) by decide +kernel) (by decide)) (Nat.le_refl _) (Nat.le_of_eq (Nat.zero_add _)) rfl rfl (by simp [oneSlot]) (Nat.le_of_ble_eq_true rfl) (Ct.mono hG ?_)
          rintro o h' (⟨v4, g5, rfl, rfl, hG⟩ | ⟨E, g, rfl, rfl, hG⟩)
          · show AW Γ l mX12_readLine (d + 1) b 27 [vR 171, vI x1, vI x2] [vI v4] (stt g5) K
            refine ax_if_eq (off := 18) (tgt := 45) (x' := wr v4) (by decide +kernel) (by decide) rfl (fun hc => ?_) (fun hc => ?_)
            · have hG := hG.1 hc
              refine aw_iconst (n := 0) (by decide +kernel) ?_
              exact aw_zret (by decide +kernel) rfl rfl hG
            · have hG := hG.2 hc
              refine aw_goto (off := 11) (tgt := 41) (by decide +kernel) (by decide) ?_
              refine aw_iconst (n := 1) (by decide +kernel) ?_
              refine aw_goto (off := 4) (tgt := 46) (by decide +kernel) (by decide) ?_
              exact aw_zret (by decide +kernel) rfl rfl hG
          · exact hG
  · exact hG

set_option maxHeartbeats 1000000 in
theorem wpX12_readAll {Γ : Cfg} {l : Launch} {d b : Nat} {g : GG} {K : Ou → HP → Prop} {x1 : Int} (hF : Ct Γ l d 0 yX12_uses mX12_uses [vR 171] (stt g) (bV (fun g1 => Ct Γ l d 0 yX12_blanks mX12_blanks [vR 171] (stt (upd2 g1 171 17 0)) (bV (fun g2 => (¬ wr (g2 171 10) = wr (g2 171 11) → AW Γ l mX12_readAll (d + 1) b 28 [vR 171, vI x1, vI 0] [] (stt g2) K) ∧ (¬ (¬ wr (g2 171 10) = wr (g2 171 11)) → K (.inl (vI 0)) (stt g2))) K)) K)) : Ct Γ l (d + 1) b yX12_readAll mX12_readAll [vR 171, vI x1] (stt g) K := by
  refine Ct.enter (L := [vR 171, vI x1, vU]) rfl rfl rfl (by decide +kernel) (by simp [oneSlot]) (Nat.le_of_ble_eq_true rfl) rfl ?_
  refine aw_aload_n (k' := 0) (by decide +kernel) rfl ?_
  refine aw_callV (y := yX12_uses) (M2 := mX12_uses) (as := []) (S := []) (t := 171) (d2 := d) (b2 := 0) (b3 := b) cwX12_uses mlX12_268 imX12_uses seX12_uses (by decide +kernel) rfl (ci := 10) rfl (OB.at (ci := 10) (show shp 171 = (20, 0) by decide +kernel) (by decide)) (Nat.le_refl _) (Nat.le_of_eq (Nat.zero_add _)) rfl rfl (by simp [oneSlot]) (Nat.le_of_ble_eq_true rfl) (Ct.mono hF ?_)
  rintro o h' (⟨g1, rfl, rfl, hG⟩ | ⟨E, g, rfl, rfl, hG⟩)
  · show AW Γ l mX12_readAll (d + 1) b 4 [vR 171, vI x1, vU] [] (stt g1) K
    refine aw_aload_n (k' := 0) (by decide +kernel) rfl ?_
    refine aw_iconst (n := 0) (by decide +kernel) ?_
    refine pfX12_202 rfl (by decide +kernel) (OB.at (ci := 10) (show shp 171 = (20, 0) by decide +kernel) (by decide)) ?_
    show AW Γ l mX12_readAll (d + 1) b 9 [vR 171, vI x1, vU] [] (stt (upd2 g1 171 17 0)) K
    refine aw_aload_n (k' := 0) (by decide +kernel) rfl ?_
    refine aw_callV (y := yX12_blanks) (M2 := mX12_blanks) (as := []) (S := []) (t := 171) (d2 := d) (b2 := 0) (b3 := b) cwX12_blanks mlX12_112 imX12_blanks seX12_blanks (by decide +kernel) rfl (ci := 10) rfl (OB.at (ci := 10) (show shp 171 = (20, 0) by decide +kernel) (by decide)) (Nat.le_refl _) (Nat.le_of_eq (Nat.zero_add _)) rfl rfl (by simp [oneSlot]) (Nat.le_of_ble_eq_true rfl) (Ct.mono hG ?_)
    rintro o h' (⟨g2, rfl, rfl, hG⟩ | ⟨E, g, rfl, rfl, hG⟩)
    · show AW Γ l mX12_readAll (d + 1) b 13 [vR 171, vI x1, vU] [] (stt g2) K
      refine aw_aload_n (k' := 0) (by decide +kernel) rfl ?_
      refine gfX12_99 rfl (by decide +kernel) (OB.at (ci := 10) (show shp 171 = (20, 0) by decide +kernel) (by decide)) ?_
      refine aw_aload_n (k' := 0) (by decide +kernel) rfl ?_
      refine gfX12_102 rfl (by decide +kernel) (OB.at (ci := 10) (show shp 171 = (20, 0) by decide +kernel) (by decide)) ?_
      refine ax_icmp_ne (off := 5) (tgt := 26) (x' := wr (g2 171 10)) (y' := wr (g2 171 11)) (by decide +kernel) (by decide) rfl rfl (fun hc => ?_) (fun hc => ?_)
      · have hG := hG.1 hc
        refine aw_iconst (n := 0) (by decide +kernel) ?_
        refine aw_istore_n (k' := 2) (by decide +kernel) (by decide) ?_
        show AW Γ l mX12_readAll (d + 1) b 28 [vR 171, vI x1, vI 0] [] (stt g2) K
        exact hG
      · have hG := hG.2 hc
        refine aw_iconst (n := 0) (by decide +kernel) ?_
        exact aw_iret (by decide +kernel) rfl hG
    · exact hG
  · exact hG
set_option maxHeartbeats 1000000 in
theorem wpX12_readAll_28 {Γ : Cfg} {l : Launch} {d b : Nat} {g : GG} {K : Ou → HP → Prop} {x1 : Int} {y2 : Int} (hF : Ct Γ l d 0 yX12_readLine mX12_readLine [vR 171, vI x1, vI y2] (stt g) (bI (fun v1 g1 => (¬ wr v1 = 0 → Ct Γ l d 0 yX12_blanks mX12_blanks [vR 171] (stt g1) (bV (fun g2 => (¬ wr (g2 171 10) = wr (g2 171 11) → Ct Γ l d 0 yX12_isAt mX12_isAt [vR 171, vI 59, vI 59] (stt g2) (bI (fun v2 g3 => (¬ wr v2 = 0 → AW Γ l mX12_readAll (d + 1) b 28 [vR 171, vI x1, vI (y2 + 1)] [] (stt (upd2 g3 171 10 ((g3 171 10) + 1))) K) ∧ (¬ (¬ wr v2 = 0) → K (.inl (vI (-1))) (stt g3))) K)) ∧ (¬ (¬ wr (g2 171 10) = wr (g2 171 11)) → K (.inl (vI (y2 + 1))) (stt g2))) K)) ∧ (¬ (¬ wr v1 = 0) → K (.inl (vI (-1))) (stt g1))) K)) : AW Γ l mX12_readAll (d + 1) b 28 [vR 171, vI x1, vI y2] [] (stt g) K := by
  refine aw_aload_n (k' := 0) (by decide +kernel) rfl ?_
  refine aw_iload_n (k' := 1) (by decide +kernel) rfl ?_
  refine aw_iload_n (k' := 2) (by decide +kernel) rfl ?_
  refine aw_callV (y := yX12_readLine) (M2 := mX12_readLine) (as := [vI x1, vI y2]) (S := []) (t := 171) (d2 := d) (b2 := 0) (b3 := b) cwX12_readLine mlX12_271 imX12_readLine seX12_readLine (by decide +kernel) rfl (ci := 10) rfl (OB.at (ci := 10) (show shp 171 = (20, 0) by decide +kernel) (by decide)) (Nat.le_refl _) (Nat.le_of_eq (Nat.zero_add _)) rfl rfl (by simp [oneSlot]) (Nat.le_of_ble_eq_true rfl) (Ct.mono hF ?_)
  rintro o h' (⟨v1, g1, rfl, rfl, hG⟩ | ⟨E, g, rfl, rfl, hG⟩)
  · show AW Γ l mX12_readAll (d + 1) b 34 [vR 171, vI x1, vI y2] [vI v1] (stt g1) K
    refine ax_if_ne (off := 5) (tgt := 39) (x' := wr v1) (by decide +kernel) (by decide) rfl (fun hc => ?_) (fun hc => ?_)
    · have hG := hG.1 hc
      refine aw_aload_n (k' := 0) (by decide +kernel) rfl ?_
      refine aw_callV (y := yX12_blanks) (M2 := mX12_blanks) (as := []) (S := []) (t := 171) (d2 := d) (b2 := 0) (b3 := b) cwX12_blanks mlX12_112 imX12_blanks seX12_blanks (by decide +kernel) rfl (ci := 10) rfl (OB.at (ci := 10) (show shp 171 = (20, 0) by decide +kernel) (by decide)) (Nat.le_refl _) (Nat.le_of_eq (Nat.zero_add _)) rfl rfl (by simp [oneSlot]) (Nat.le_of_ble_eq_true rfl) (Ct.mono hG ?_)
      rintro o h' (⟨g2, rfl, rfl, hG⟩ | ⟨E, g, rfl, rfl, hG⟩)
      · show AW Γ l mX12_readAll (d + 1) b 43 [vR 171, vI x1, vI y2] [] (stt g2) K
        refine aw_aload_n (k' := 0) (by decide +kernel) rfl ?_
        refine gfX12_99 rfl (by decide +kernel) (OB.at (ci := 10) (show shp 171 = (20, 0) by decide +kernel) (by decide)) ?_
        refine aw_aload_n (k' := 0) (by decide +kernel) rfl ?_
        refine gfX12_102 rfl (by decide +kernel) (OB.at (ci := 10) (show shp 171 = (20, 0) by decide +kernel) (by decide)) ?_
        refine ax_icmp_ne (off := 7) (tgt := 58) (x' := wr (g2 171 10)) (y' := wr (g2 171 11)) (by decide +kernel) (by decide) rfl rfl (fun hc => ?_) (fun hc => ?_)
        · have hG := hG.1 hc
          refine aw_aload_n (k' := 0) (by decide +kernel) rfl ?_
          refine aw_bipush (n := 59) (by decide +kernel) (by decide +kernel) ?_
          refine aw_bipush (n := 59) (by decide +kernel) (by decide +kernel) ?_
          refine aw_callV (y := yX12_isAt) (M2 := mX12_isAt) (as := [vI 59, vI 59]) (S := []) (t := 171) (d2 := d) (b2 := 0) (b3 := b) cwX12_isAt mlX12_105 imX12_isAt seX12_isAt (by decide +kernel) rfl (ci := 10) rfl (OB.at (ci := 10) (show shp 171 = (20, 0) by decide +kernel) (by decide)) (Nat.le_refl _) (Nat.le_of_eq (Nat.zero_add _)) rfl rfl (by simp [oneSlot]) (Nat.le_of_ble_eq_true rfl) (Ct.mono hG ?_)
          rintro o h' (⟨v2, g3, rfl, rfl, hG⟩ | ⟨E, g, rfl, rfl, hG⟩)
          · show AW Γ l mX12_readAll (d + 1) b 66 [vR 171, vI x1, vI y2] [vI v2] (stt g3) K
            refine ax_if_ne (off := 5) (tgt := 71) (x' := wr v2) (by decide +kernel) (by decide) rfl (fun hc => ?_) (fun hc => ?_)
            · have hG := hG.1 hc
              refine aw_aload_n (k' := 0) (by decide +kernel) rfl ?_
              refine aw_dup (by decide +kernel) trivial ?_
              refine gfX12_99 rfl (by decide +kernel) (OB.at (ci := 10) (show shp 171 = (20, 0) by decide +kernel) (by decide)) ?_
              refine aw_iconst (n := 1) (by decide +kernel) ?_
              refine aw_iadd (by decide +kernel) ?_
              refine pfX12_99 rfl (by decide +kernel) (OB.at (ci := 10) (show shp 171 = (20, 0) by decide +kernel) (by decide)) ?_
              show AW Γ l mX12_readAll (d + 1) b 81 [vR 171, vI x1, vI y2] [] (stt (upd2 g3 171 10 ((g3 171 10) + 1))) K
              refine aw_iinc (i := 2) (n := 1) (by decide +kernel) rfl (by decide) ?_
              show AW Γ l mX12_readAll (d + 1) b 84 [vR 171, vI x1, vI (y2 + 1)] [] (stt (upd2 g3 171 10 ((g3 171 10) + 1))) K
              refine aw_goto (off := -56) (tgt := 28) (by decide +kernel) (by decide) ?_
              exact hG
            · have hG := hG.2 hc
              refine aw_iconst (n := -1) (by decide +kernel) ?_
              exact aw_iret (by decide +kernel) rfl hG
          · exact hG
        · have hG := hG.2 hc
          refine aw_iload_n (k' := 2) (by decide +kernel) rfl ?_
          refine aw_iconst (n := 1) (by decide +kernel) ?_
          refine aw_iadd (by decide +kernel) ?_
          exact aw_iret (by decide +kernel) rfl hG
      · exact hG
    · have hG := hG.2 hc
      refine aw_iconst (n := -1) (by decide +kernel) ?_
      exact aw_iret (by decide +kernel) rfl hG
  · exact hG

set_option maxHeartbeats 1000000 in
theorem wpX12_hills {Γ : Cfg} {l : Launch} {d b : Nat} {g : GG} {K : Ou → HP → Prop}  (hF : AW Γ l mX12_hills (d + 1) b 2 [vR 171, vI 0, vU] [] (stt g) K) : Ct Γ l (d + 1) b yX12_hills mX12_hills [vR 171] (stt g) K := by
  refine Ct.enter (L := [vR 171, vU, vU]) rfl rfl rfl (by decide +kernel) (by simp [oneSlot]) (Nat.le_of_ble_eq_true rfl) rfl ?_
  refine aw_iconst (n := 0) (by decide +kernel) ?_
  refine aw_istore_n (k' := 1) (by decide +kernel) (by decide) ?_
  show AW Γ l mX12_hills (d + 1) b 2 [vR 171, vI 0, vU] [] (stt g) K
  exact hF
set_option maxHeartbeats 1000000 in
theorem wpX12_hills_2 {Γ : Cfg} {l : Launch} {d b : Nat} {g : GG} {K : Ou → HP → Prop} {y1 : Int} (hF : (1335 ≤ wr y1 → Ct Γ l d 0 yX12_readAll mX12_readAll [vR 171, vI 1] (stt g) (bI (fun v1 g1 => (0 ≤ wr v1 → (0 ≤ wr v1 → (¬ wr ((upd2 g1 171 14 (-1)) 172 1) = 12 → (∀ g2 : GG, g2 = upd2 (upd2 g1 171 14 (-1)) 172 1 (((upd2 g1 171 14 (-1)) 172 1) + 1) → K (.inl (vI ((upd2 g2 171 7 0) 172 1))) (stt (upd2 g2 171 7 0)))) ∧ (¬ (¬ wr ((upd2 g1 171 14 (-1)) 172 1) = 12) → AW Γ l mX12_hills (d + 1) b 92 [vR 171, vI v1, vI 0] [] (stt (upd2 (upd2 g1 171 14 (-1)) 171 0 2)) K)) ∧ (¬ (0 ≤ wr v1) → AW Γ l mX12_hills (d + 1) b 92 [vR 171, vI v1, vI 0] [] (stt (upd2 (upd2 g1 171 14 (-1)) 171 0 1)) K)) ∧ (¬ (0 ≤ wr v1) → (0 ≤ wr v1 → (¬ wr ((upd2 g1 171 14 (g1 171 12)) 172 1) = 12 → (∀ g3 : GG, g3 = upd2 (upd2 g1 171 14 (g1 171 12)) 172 1 (((upd2 g1 171 14 (g1 171 12)) 172 1) + 1) → K (.inl (vI ((upd2 g3 171 7 0) 172 1))) (stt (upd2 g3 171 7 0)))) ∧ (¬ (¬ wr ((upd2 g1 171 14 (g1 171 12)) 172 1) = 12) → AW Γ l mX12_hills (d + 1) b 92 [vR 171, vI v1, vI 0] [] (stt (upd2 (upd2 g1 171 14 (g1 171 12)) 171 0 2)) K)) ∧ (¬ (0 ≤ wr v1) → AW Γ l mX12_hills (d + 1) b 92 [vR 171, vI v1, vI 0] [] (stt (upd2 (upd2 g1 171 14 (g1 171 12)) 171 0 1)) K))) K)) ∧ (¬ (1335 ≤ wr y1) → (0 ≤ wr y1 ∧ wr y1 < 2184) ∧ ((0 ≤ wr y1 ∧ wr y1 < 1335) ∧ (AW Γ l mX12_hills (d + 1) b 2 [vR 171, vI (y1 + 1), vU] [] (stt (upd2 g 174 (wr y1) (g 172 (wr y1)))) K)))) : AW Γ l mX12_hills (d + 1) b 2 [vR 171, vI y1, vU] [] (stt g) K := by
  refine aw_iload_n (k' := 1) (by decide +kernel) rfl ?_
  refine aw_sipush (n := 1335) (by decide +kernel) (by decide +kernel) ?_
  refine ax_icmp_ge (off := 21) (tgt := 27) (x' := wr y1) (y' := 1335) (by decide +kernel) (by decide) rfl (by decide +kernel) (fun hc => ?_) (fun hc => ?_)
  · have hF := hF.1 hc
    refine aw_aload_n (k' := 0) (by decide +kernel) rfl ?_
    refine aw_iconst (n := 1) (by decide +kernel) ?_
    refine aw_callV (y := yX12_readAll) (M2 := mX12_readAll) (as := [vI 1]) (S := []) (t := 171) (d2 := d) (b2 := 0) (b3 := b) cwX12_readAll mlX12_275 imX12_readAll seX12_readAll (by decide +kernel) rfl (ci := 10) rfl (OB.at (ci := 10) (show shp 171 = (20, 0) by decide +kernel) (by decide)) (Nat.le_refl _) (Nat.le_of_eq (Nat.zero_add _)) rfl rfl (by simp [oneSlot]) (Nat.le_of_ble_eq_true rfl) (Ct.mono hF ?_)
    rintro o h' (⟨v1, g1, rfl, rfl, hG⟩ | ⟨E, g, rfl, rfl, hG⟩)
    · show AW Γ l mX12_hills (d + 1) b 32 [vR 171, vI y1, vU] [vI v1] (stt g1) K
      refine aw_istore_n (k' := 1) (by decide +kernel) (by decide) ?_
      show AW Γ l mX12_hills (d + 1) b 33 [vR 171, vI v1, vU] [] (stt g1) K
      refine aw_aload_n (k' := 0) (by decide +kernel) rfl ?_
      refine aw_iload_n (k' := 1) (by decide +kernel) rfl ?_
      refine ax_if_ge (off := 10) (tgt := 45) (x' := wr v1) (by decide +kernel) (by decide) rfl (fun hc => ?_) (fun hc => ?_)
      · have hG := hG.1 hc
        refine aw_iconst (n := -1) (by decide +kernel) ?_
        refine pfX12_33 rfl (by decide +kernel) (OB.at (ci := 10) (show shp 171 = (20, 0) by decide +kernel) (by decide)) ?_
        show AW Γ l mX12_hills (d + 1) b 49 [vR 171, vI v1, vU] [] (stt (upd2 g1 171 14 (-1))) K
        refine aw_aload_n (k' := 0) (by decide +kernel) rfl ?_
        refine aw_iload_n (k' := 1) (by decide +kernel) rfl ?_
        refine ax_if_ge (off := 7) (tgt := 58) (x' := wr v1) (by decide +kernel) (by decide) rfl (fun hc => ?_) (fun hc => ?_)
        · have hG := hG.1 hc
          refine aw_iconst (n := 0) (by decide +kernel) ?_
          refine aw_iconst (n := 1) (by decide +kernel) ?_
          refine aw_callV (y := yX12_throwsIf) (M2 := mX12_throwsIf) (as := [vI 0, vI 1]) (S := []) (t := 171) (d2 := d) (b2 := 0) (b3 := b) cwX12_throwsIf mlX12_279 imX12_throwsIf seX12_throwsIf (by decide +kernel) rfl (ci := 10) rfl (OB.at (ci := 10) (show shp 171 = (20, 0) by decide +kernel) (by decide)) (Nat.le_refl _) (Nat.le_of_eq (Nat.zero_add _)) rfl rfl (by simp [oneSlot]) (Nat.le_of_ble_eq_true rfl) (c_throwsIf0 ?_)
          show AW Γ l mX12_hills (d + 1) b 63 [vR 171, vI v1, vU] [vI 0] (stt (upd2 g1 171 14 (-1))) K
          refine ax_if_ne (off := 27) (tgt := 90) (x' := 0) (by decide +kernel) (by decide) (by decide +kernel) (fun hc => absurd hc (by decide)) (fun hc => ?_)
          refine aw_aload_n (k' := 0) (by decide +kernel) rfl ?_
          refine aw_aload_n (k' := 0) (by decide +kernel) rfl ?_
          refine gfX12_13 rfl (by decide +kernel) (OB.at (ci := 10) (show shp 171 = (20, 0) by decide +kernel) (by decide)) ?_
          refine AW.topR (show RC 171 1 = 172 by decide +kernel) ?_
          refine aw_iconst (n := 1) (by decide +kernel) ?_
          refine ax_iald (i := 1) (by decide +kernel) (isA_lit (show shp 172 = (0, 2184) by decide +kernel) (by decide)) (by decide +kernel) ⟨by decide, by decide⟩ ?_
          refine aw_bipush (n := 12) (by decide +kernel) (by decide +kernel) ?_
          refine ax_icmp_ne (off := 7) (tgt := 82) (x' := wr ((upd2 g1 171 14 (-1)) 172 1)) (y' := 12) (by decide +kernel) (by decide) rfl (by decide +kernel) (fun hc => ?_) (fun hc => ?_)
          · have hG := hG.1 hc
            refine aw_iconst (n := 0) (by decide +kernel) ?_
            refine aw_iconst (n := 2) (by decide +kernel) ?_
            refine aw_callV (y := yX12_throwsIf) (M2 := mX12_throwsIf) (as := [vI 0, vI 2]) (S := []) (t := 171) (d2 := d) (b2 := 0) (b3 := b) cwX12_throwsIf mlX12_279 imX12_throwsIf seX12_throwsIf (by decide +kernel) rfl (ci := 10) rfl (OB.at (ci := 10) (show shp 171 = (20, 0) by decide +kernel) (by decide)) (Nat.le_refl _) (Nat.le_of_eq (Nat.zero_add _)) rfl rfl (by simp [oneSlot]) (Nat.le_of_ble_eq_true rfl) (c_throwsIf0 ?_)
            show AW Γ l mX12_hills (d + 1) b 87 [vR 171, vI v1, vU] [vI 0] (stt (upd2 g1 171 14 (-1))) K
            refine ax_if_eq (off := 32) (tgt := 119) (x' := 0) (by decide +kernel) (by decide) (by decide +kernel) (fun hc => ?_) (fun hc => absurd (by decide) hc)
            refine aw_aload_n (k' := 0) (by decide +kernel) rfl ?_
            refine gfX12_13 rfl (by decide +kernel) (OB.at (ci := 10) (show shp 171 = (20, 0) by decide +kernel) (by decide)) ?_
            refine AW.topR (show RC 171 1 = 172 by decide +kernel) ?_
            refine aw_iconst (n := 1) (by decide +kernel) ?_
            refine aw_dup2 (by decide +kernel) trivial trivial ?_
            refine ax_iald (i := 1) (by decide +kernel) (isA_lit (show shp 172 = (0, 2184) by decide +kernel) (by decide)) (by decide +kernel) ⟨by decide, by decide⟩ ?_
            refine aw_iconst (n := 1) (by decide +kernel) ?_
            refine aw_iadd (by decide +kernel) ?_
            refine ax_iast (i := 1) (by decide +kernel) (isA_lit (show shp 172 = (0, 2184) by decide +kernel) (by decide)) (by decide +kernel) ⟨by decide, by decide⟩ ?_
            show AW Γ l mX12_hills (d + 1) b 129 [vR 171, vI v1, vU] [] (stt (upd2 (upd2 g1 171 14 (-1)) 172 1 (((upd2 g1 171 14 (-1)) 172 1) + 1))) K
            show AW Γ l mX12_hills (d + 1) b 129 [vR 171, vI v1, vU] [] (stt (upd2 (upd2 g1 171 14 (-1)) 172 1 (((upd2 g1 171 14 (-1)) 172 1) + 1))) K
            generalize eg2 : upd2 (upd2 g1 171 14 (-1)) 172 1 (((upd2 g1 171 14 (-1)) 172 1) + 1) = g2
            replace hG := hG g2 eg2.symm
            refine aw_aload_n (k' := 0) (by decide +kernel) rfl ?_
            refine aw_iconst (n := 0) (by decide +kernel) ?_
            refine pfX12_77 rfl (by decide +kernel) (OB.at (ci := 10) (show shp 171 = (20, 0) by decide +kernel) (by decide)) ?_
            show AW Γ l mX12_hills (d + 1) b 134 [vR 171, vI v1, vU] [] (stt (upd2 g2 171 7 0)) K
            refine aw_aload_n (k' := 0) (by decide +kernel) rfl ?_
            refine gfX12_13 rfl (by decide +kernel) (OB.at (ci := 10) (show shp 171 = (20, 0) by decide +kernel) (by decide)) ?_
            refine AW.topR (show RC 171 1 = 172 by decide +kernel) ?_
            refine aw_iconst (n := 1) (by decide +kernel) ?_
            refine ax_iald (i := 1) (by decide +kernel) (isA_lit (show shp 172 = (0, 2184) by decide +kernel) (by decide)) (by decide +kernel) ⟨by decide, by decide⟩ ?_
            exact aw_iret (by decide +kernel) rfl hG
          · have hG := hG.2 hc
            refine aw_iconst (n := 1) (by decide +kernel) ?_
            refine aw_goto (off := 4) (tgt := 83) (by decide +kernel) (by decide) ?_
            refine aw_iconst (n := 2) (by decide +kernel) ?_
            refine aw_callV (y := yX12_throwsIf) (M2 := mX12_throwsIf) (as := [vI 1, vI 2]) (S := []) (t := 171) (d2 := d) (b2 := 0) (b3 := b) cwX12_throwsIf mlX12_279 imX12_throwsIf seX12_throwsIf (by decide +kernel) rfl (ci := 10) rfl (OB.at (ci := 10) (show shp 171 = (20, 0) by decide +kernel) (by decide)) (Nat.le_refl _) (Nat.le_of_eq (Nat.zero_add _)) rfl rfl (by simp [oneSlot]) (Nat.le_of_ble_eq_true rfl) (c_throwsIf1 ?_)
            show AW Γ l mX12_hills (d + 1) b 87 [vR 171, vI v1, vU] [vI 1] (stt (upd2 (upd2 g1 171 14 (-1)) 171 0 2)) K
            refine ax_if_eq (off := 32) (tgt := 119) (x' := 1) (by decide +kernel) (by decide) (by decide +kernel) (fun hc => absurd hc (by decide)) (fun hc => ?_)
            refine aw_iconst (n := 0) (by decide +kernel) ?_
            refine aw_istore_n (k' := 2) (by decide +kernel) (by decide) ?_
            show AW Γ l mX12_hills (d + 1) b 92 [vR 171, vI v1, vI 0] [] (stt (upd2 (upd2 g1 171 14 (-1)) 171 0 2)) K
            exact hG
        · have hG := hG.2 hc
          refine aw_iconst (n := 1) (by decide +kernel) ?_
          refine aw_goto (off := 4) (tgt := 59) (by decide +kernel) (by decide) ?_
          refine aw_iconst (n := 1) (by decide +kernel) ?_
          refine aw_callV (y := yX12_throwsIf) (M2 := mX12_throwsIf) (as := [vI 1, vI 1]) (S := []) (t := 171) (d2 := d) (b2 := 0) (b3 := b) cwX12_throwsIf mlX12_279 imX12_throwsIf seX12_throwsIf (by decide +kernel) rfl (ci := 10) rfl (OB.at (ci := 10) (show shp 171 = (20, 0) by decide +kernel) (by decide)) (Nat.le_refl _) (Nat.le_of_eq (Nat.zero_add _)) rfl rfl (by simp [oneSlot]) (Nat.le_of_ble_eq_true rfl) (c_throwsIf1 ?_)
          show AW Γ l mX12_hills (d + 1) b 63 [vR 171, vI v1, vU] [vI 1] (stt (upd2 (upd2 g1 171 14 (-1)) 171 0 1)) K
          refine ax_if_ne (off := 27) (tgt := 90) (x' := 1) (by decide +kernel) (by decide) (by decide +kernel) (fun hc => ?_) (fun hc => absurd (by decide) hc)
          refine aw_iconst (n := 0) (by decide +kernel) ?_
          refine aw_istore_n (k' := 2) (by decide +kernel) (by decide) ?_
          show AW Γ l mX12_hills (d + 1) b 92 [vR 171, vI v1, vI 0] [] (stt (upd2 (upd2 g1 171 14 (-1)) 171 0 1)) K
          exact hG
      · have hG := hG.2 hc
        refine aw_aload_n (k' := 0) (by decide +kernel) rfl ?_
        refine gfX12_109 rfl (by decide +kernel) (OB.at (ci := 10) (show shp 171 = (20, 0) by decide +kernel) (by decide)) ?_
        refine aw_goto (off := 4) (tgt := 46) (by decide +kernel) (by decide) ?_
        refine pfX12_33 rfl (by decide +kernel) (OB.at (ci := 10) (show shp 171 = (20, 0) by decide +kernel) (by decide)) ?_
        show AW Γ l mX12_hills (d + 1) b 49 [vR 171, vI v1, vU] [] (stt (upd2 g1 171 14 (g1 171 12))) K
        refine aw_aload_n (k' := 0) (by decide +kernel) rfl ?_
        refine aw_iload_n (k' := 1) (by decide +kernel) rfl ?_
        refine ax_if_ge (off := 7) (tgt := 58) (x' := wr v1) (by decide +kernel) (by decide) rfl (fun hc => ?_) (fun hc => ?_)
        · have hG := hG.1 hc
          refine aw_iconst (n := 0) (by decide +kernel) ?_
          refine aw_iconst (n := 1) (by decide +kernel) ?_
          refine aw_callV (y := yX12_throwsIf) (M2 := mX12_throwsIf) (as := [vI 0, vI 1]) (S := []) (t := 171) (d2 := d) (b2 := 0) (b3 := b) cwX12_throwsIf mlX12_279 imX12_throwsIf seX12_throwsIf (by decide +kernel) rfl (ci := 10) rfl (OB.at (ci := 10) (show shp 171 = (20, 0) by decide +kernel) (by decide)) (Nat.le_refl _) (Nat.le_of_eq (Nat.zero_add _)) rfl rfl (by simp [oneSlot]) (Nat.le_of_ble_eq_true rfl) (c_throwsIf0 ?_)
          show AW Γ l mX12_hills (d + 1) b 63 [vR 171, vI v1, vU] [vI 0] (stt (upd2 g1 171 14 (g1 171 12))) K
          refine ax_if_ne (off := 27) (tgt := 90) (x' := 0) (by decide +kernel) (by decide) (by decide +kernel) (fun hc => absurd hc (by decide)) (fun hc => ?_)
          refine aw_aload_n (k' := 0) (by decide +kernel) rfl ?_
          refine aw_aload_n (k' := 0) (by decide +kernel) rfl ?_
          refine gfX12_13 rfl (by decide +kernel) (OB.at (ci := 10) (show shp 171 = (20, 0) by decide +kernel) (by decide)) ?_
          refine AW.topR (show RC 171 1 = 172 by decide +kernel) ?_
          refine aw_iconst (n := 1) (by decide +kernel) ?_
          refine ax_iald (i := 1) (by decide +kernel) (isA_lit (show shp 172 = (0, 2184) by decide +kernel) (by decide)) (by decide +kernel) ⟨by decide, by decide⟩ ?_
          refine aw_bipush (n := 12) (by decide +kernel) (by decide +kernel) ?_
          refine ax_icmp_ne (off := 7) (tgt := 82) (x' := wr ((upd2 g1 171 14 (g1 171 12)) 172 1)) (y' := 12) (by decide +kernel) (by decide) rfl (by decide +kernel) (fun hc => ?_) (fun hc => ?_)
          · have hG := hG.1 hc
            refine aw_iconst (n := 0) (by decide +kernel) ?_
            refine aw_iconst (n := 2) (by decide +kernel) ?_
            refine aw_callV (y := yX12_throwsIf) (M2 := mX12_throwsIf) (as := [vI 0, vI 2]) (S := []) (t := 171) (d2 := d) (b2 := 0) (b3 := b) cwX12_throwsIf mlX12_279 imX12_throwsIf seX12_throwsIf (by decide +kernel) rfl (ci := 10) rfl (OB.at (ci := 10) (show shp 171 = (20, 0) by decide +kernel) (by decide)) (Nat.le_refl _) (Nat.le_of_eq (Nat.zero_add _)) rfl rfl (by simp [oneSlot]) (Nat.le_of_ble_eq_true rfl) (c_throwsIf0 ?_)
            show AW Γ l mX12_hills (d + 1) b 87 [vR 171, vI v1, vU] [vI 0] (stt (upd2 g1 171 14 (g1 171 12))) K
            refine ax_if_eq (off := 32) (tgt := 119) (x' := 0) (by decide +kernel) (by decide) (by decide +kernel) (fun hc => ?_) (fun hc => absurd (by decide) hc)
            refine aw_aload_n (k' := 0) (by decide +kernel) rfl ?_
            refine gfX12_13 rfl (by decide +kernel) (OB.at (ci := 10) (show shp 171 = (20, 0) by decide +kernel) (by decide)) ?_
            refine AW.topR (show RC 171 1 = 172 by decide +kernel) ?_
            refine aw_iconst (n := 1) (by decide +kernel) ?_
            refine aw_dup2 (by decide +kernel) trivial trivial ?_
            refine ax_iald (i := 1) (by decide +kernel) (isA_lit (show shp 172 = (0, 2184) by decide +kernel) (by decide)) (by decide +kernel) ⟨by decide, by decide⟩ ?_
            refine aw_iconst (n := 1) (by decide +kernel) ?_
            refine aw_iadd (by decide +kernel) ?_
            refine ax_iast (i := 1) (by decide +kernel) (isA_lit (show shp 172 = (0, 2184) by decide +kernel) (by decide)) (by decide +kernel) ⟨by decide, by decide⟩ ?_
            show AW Γ l mX12_hills (d + 1) b 129 [vR 171, vI v1, vU] [] (stt (upd2 (upd2 g1 171 14 (g1 171 12)) 172 1 (((upd2 g1 171 14 (g1 171 12)) 172 1) + 1))) K
            show AW Γ l mX12_hills (d + 1) b 129 [vR 171, vI v1, vU] [] (stt (upd2 (upd2 g1 171 14 (g1 171 12)) 172 1 (((upd2 g1 171 14 (g1 171 12)) 172 1) + 1))) K
            generalize eg3 : upd2 (upd2 g1 171 14 (g1 171 12)) 172 1 (((upd2 g1 171 14 (g1 171 12)) 172 1) + 1) = g3
            replace hG := hG g3 eg3.symm
            refine aw_aload_n (k' := 0) (by decide +kernel) rfl ?_
            refine aw_iconst (n := 0) (by decide +kernel) ?_
            refine pfX12_77 rfl (by decide +kernel) (OB.at (ci := 10) (show shp 171 = (20, 0) by decide +kernel) (by decide)) ?_
            show AW Γ l mX12_hills (d + 1) b 134 [vR 171, vI v1, vU] [] (stt (upd2 g3 171 7 0)) K
            refine aw_aload_n (k' := 0) (by decide +kernel) rfl ?_
            refine gfX12_13 rfl (by decide +kernel) (OB.at (ci := 10) (show shp 171 = (20, 0) by decide +kernel) (by decide)) ?_
            refine AW.topR (show RC 171 1 = 172 by decide +kernel) ?_
            refine aw_iconst (n := 1) (by decide +kernel) ?_
            refine ax_iald (i := 1) (by decide +kernel) (isA_lit (show shp 172 = (0, 2184) by decide +kernel) (by decide)) (by decide +kernel) ⟨by decide, by decide⟩ ?_
            exact aw_iret (by decide +kernel) rfl hG
          · have hG := hG.2 hc
            refine aw_iconst (n := 1) (by decide +kernel) ?_
            refine aw_goto (off := 4) (tgt := 83) (by decide +kernel) (by decide) ?_
            refine aw_iconst (n := 2) (by decide +kernel) ?_
            refine aw_callV (y := yX12_throwsIf) (M2 := mX12_throwsIf) (as := [vI 1, vI 2]) (S := []) (t := 171) (d2 := d) (b2 := 0) (b3 := b) cwX12_throwsIf mlX12_279 imX12_throwsIf seX12_throwsIf (by decide +kernel) rfl (ci := 10) rfl (OB.at (ci := 10) (show shp 171 = (20, 0) by decide +kernel) (by decide)) (Nat.le_refl _) (Nat.le_of_eq (Nat.zero_add _)) rfl rfl (by simp [oneSlot]) (Nat.le_of_ble_eq_true rfl) (c_throwsIf1 ?_)
            show AW Γ l mX12_hills (d + 1) b 87 [vR 171, vI v1, vU] [vI 1] (stt (upd2 (upd2 g1 171 14 (g1 171 12)) 171 0 2)) K
            refine ax_if_eq (off := 32) (tgt := 119) (x' := 1) (by decide +kernel) (by decide) (by decide +kernel) (fun hc => absurd hc (by decide)) (fun hc => ?_)
            refine aw_iconst (n := 0) (by decide +kernel) ?_
            refine aw_istore_n (k' := 2) (by decide +kernel) (by decide) ?_
            show AW Γ l mX12_hills (d + 1) b 92 [vR 171, vI v1, vI 0] [] (stt (upd2 (upd2 g1 171 14 (g1 171 12)) 171 0 2)) K
            exact hG
        · have hG := hG.2 hc
          refine aw_iconst (n := 1) (by decide +kernel) ?_
          refine aw_goto (off := 4) (tgt := 59) (by decide +kernel) (by decide) ?_
          refine aw_iconst (n := 1) (by decide +kernel) ?_
          refine aw_callV (y := yX12_throwsIf) (M2 := mX12_throwsIf) (as := [vI 1, vI 1]) (S := []) (t := 171) (d2 := d) (b2 := 0) (b3 := b) cwX12_throwsIf mlX12_279 imX12_throwsIf seX12_throwsIf (by decide +kernel) rfl (ci := 10) rfl (OB.at (ci := 10) (show shp 171 = (20, 0) by decide +kernel) (by decide)) (Nat.le_refl _) (Nat.le_of_eq (Nat.zero_add _)) rfl rfl (by simp [oneSlot]) (Nat.le_of_ble_eq_true rfl) (c_throwsIf1 ?_)
          show AW Γ l mX12_hills (d + 1) b 63 [vR 171, vI v1, vU] [vI 1] (stt (upd2 (upd2 g1 171 14 (g1 171 12)) 171 0 1)) K
          refine ax_if_ne (off := 27) (tgt := 90) (x' := 1) (by decide +kernel) (by decide) (by decide +kernel) (fun hc => ?_) (fun hc => absurd (by decide) hc)
          refine aw_iconst (n := 0) (by decide +kernel) ?_
          refine aw_istore_n (k' := 2) (by decide +kernel) (by decide) ?_
          show AW Γ l mX12_hills (d + 1) b 92 [vR 171, vI v1, vI 0] [] (stt (upd2 (upd2 g1 171 14 (g1 171 12)) 171 0 1)) K
          exact hG
    · exact hG
  · have hF := hF.2 hc
    refine aw_aload_n (k' := 0) (by decide +kernel) rfl ?_
    refine gfX12_20 rfl (by decide +kernel) (OB.at (ci := 10) (show shp 171 = (20, 0) by decide +kernel) (by decide)) ?_
    refine AW.topR (show RC 171 3 = 174 by decide +kernel) ?_
    refine aw_iload_n (k' := 1) (by decide +kernel) rfl ?_
    refine aw_aload_n (k' := 0) (by decide +kernel) rfl ?_
    refine gfX12_13 rfl (by decide +kernel) (OB.at (ci := 10) (show shp 171 = (20, 0) by decide +kernel) (by decide)) ?_
    refine AW.topR (show RC 171 1 = 172 by decide +kernel) ?_
    refine aw_iload_n (k' := 1) (by decide +kernel) rfl ?_
    refine ax_iald (i := wr y1) (by decide +kernel) (isA_lit (show shp 172 = (0, 2184) by decide +kernel) (by decide)) rfl hF.1 ?_
    replace hF := hF.2
    refine ax_iast (i := wr y1) (by decide +kernel) (isA_lit (show shp 174 = (0, 1335) by decide +kernel) (by decide)) rfl hF.1 ?_
    show AW Γ l mX12_hills (d + 1) b 21 [vR 171, vI y1, vU] [] (stt (upd2 g 174 (wr y1) (g 172 (wr y1)))) K
    replace hF := hF.2
    refine aw_iinc (i := 1) (n := 1) (by decide +kernel) rfl (by decide) ?_
    show AW Γ l mX12_hills (d + 1) b 24 [vR 171, vI (y1 + 1), vU] [] (stt (upd2 g 174 (wr y1) (g 172 (wr y1)))) K
    refine aw_goto (off := -22) (tgt := 2) (by decide +kernel) (by decide) ?_
    exact hF
set_option maxHeartbeats 1000000 in
theorem wpX12_hills_92 {Γ : Cfg} {l : Launch} {d b : Nat} {g : GG} {K : Ou → HP → Prop} {y1 : Int} {y2 : Int} (hF : (1335 ≤ wr y2 → K (.inl (vI 0)) (stt g)) ∧ (¬ (1335 ≤ wr y2) → (0 ≤ wr y2 ∧ wr y2 < 1335) ∧ ((0 ≤ wr y2 ∧ wr y2 < 2184) ∧ (AW Γ l mX12_hills (d + 1) b 92 [vR 171, vI y1, vI (y2 + 1)] [] (stt (upd2 g 172 (wr y2) (g 174 (wr y2)))) K)))) : AW Γ l mX12_hills (d + 1) b 92 [vR 171, vI y1, vI y2] [] (stt g) K := by
  refine aw_iload_n (k' := 2) (by decide +kernel) rfl ?_
  refine aw_sipush (n := 1335) (by decide +kernel) (by decide +kernel) ?_
  refine ax_icmp_ge (off := 21) (tgt := 117) (x' := wr y2) (y' := 1335) (by decide +kernel) (by decide) rfl (by decide +kernel) (fun hc => ?_) (fun hc => ?_)
  · have hF := hF.1 hc
    refine aw_iconst (n := 0) (by decide +kernel) ?_
    exact aw_iret (by decide +kernel) rfl hF
  · have hF := hF.2 hc
    refine aw_aload_n (k' := 0) (by decide +kernel) rfl ?_
    refine gfX12_13 rfl (by decide +kernel) (OB.at (ci := 10) (show shp 171 = (20, 0) by decide +kernel) (by decide)) ?_
    refine AW.topR (show RC 171 1 = 172 by decide +kernel) ?_
    refine aw_iload_n (k' := 2) (by decide +kernel) rfl ?_
    refine aw_aload_n (k' := 0) (by decide +kernel) rfl ?_
    refine gfX12_20 rfl (by decide +kernel) (OB.at (ci := 10) (show shp 171 = (20, 0) by decide +kernel) (by decide)) ?_
    refine AW.topR (show RC 171 3 = 174 by decide +kernel) ?_
    refine aw_iload_n (k' := 2) (by decide +kernel) rfl ?_
    refine ax_iald (i := wr y2) (by decide +kernel) (isA_lit (show shp 174 = (0, 1335) by decide +kernel) (by decide)) rfl hF.1 ?_
    replace hF := hF.2
    refine ax_iast (i := wr y2) (by decide +kernel) (isA_lit (show shp 172 = (0, 2184) by decide +kernel) (by decide)) rfl hF.1 ?_
    show AW Γ l mX12_hills (d + 1) b 111 [vR 171, vI y1, vI y2] [] (stt (upd2 g 172 (wr y2) (g 174 (wr y2)))) K
    replace hF := hF.2
    refine aw_iinc (i := 2) (n := 1) (by decide +kernel) rfl (by decide) ?_
    show AW Γ l mX12_hills (d + 1) b 114 [vR 171, vI y1, vI (y2 + 1)] [] (stt (upd2 g 172 (wr y2) (g 174 (wr y2)))) K
    refine aw_goto (off := -22) (tgt := 92) (by decide +kernel) (by decide) ?_
    exact hF

set_option maxHeartbeats 1000000 in
theorem wpX12_law {Γ : Cfg} {l : Launch} {d b : Nat} {g : GG} {K : Ou → HP → Prop}  (hF : Ct Γ l d 0 yX12_readAll mX12_readAll [vR 171, vI 0] (stt g) (bI (fun v1 g1 => (0 ≤ wr v1 → (0 ≤ wr v1 → (∀ g2 : GG, g2 = upd2 (upd2 g1 171 14 (-1)) 172 1335 v1 → AW Γ l mX12_law (d + 1) b 52 [vR 171, vI v1, vI 0] [] (stt g2) K)) ∧ (¬ (0 ≤ wr v1) → K (.inl (vI 0)) (stt (upd2 (upd2 g1 171 14 (-1)) 171 0 1)))) ∧ (¬ (0 ≤ wr v1) → (0 ≤ wr v1 → (∀ g3 : GG, g3 = upd2 (upd2 g1 171 14 (g1 171 12)) 172 1335 v1 → AW Γ l mX12_law (d + 1) b 52 [vR 171, vI v1, vI 0] [] (stt g3) K)) ∧ (¬ (0 ≤ wr v1) → K (.inl (vI 0)) (stt (upd2 (upd2 g1 171 14 (g1 171 12)) 171 0 1))))) K)) : Ct Γ l (d + 1) b yX12_law mX12_law [vR 171] (stt g) K := by
  refine Ct.enter (L := [vR 171, vU, vU]) rfl rfl rfl (by decide +kernel) (by simp [oneSlot]) (Nat.le_of_ble_eq_true rfl) rfl ?_
  refine aw_aload_n (k' := 0) (by decide +kernel) rfl ?_
  refine aw_iconst (n := 0) (by decide +kernel) ?_
  refine aw_callV (y := yX12_readAll) (M2 := mX12_readAll) (as := [vI 0]) (S := []) (t := 171) (d2 := d) (b2 := 0) (b3 := b) cwX12_readAll mlX12_275 imX12_readAll seX12_readAll (by decide +kernel) rfl (ci := 10) rfl (OB.at (ci := 10) (show shp 171 = (20, 0) by decide +kernel) (by decide)) (Nat.le_refl _) (Nat.le_of_eq (Nat.zero_add _)) rfl rfl (by simp [oneSlot]) (Nat.le_of_ble_eq_true rfl) (Ct.mono hF ?_)
  rintro o h' (⟨v1, g1, rfl, rfl, hG⟩ | ⟨E, g, rfl, rfl, hG⟩)
  · show AW Γ l mX12_law (d + 1) b 5 [vR 171, vU, vU] [vI v1] (stt g1) K
    refine aw_istore_n (k' := 1) (by decide +kernel) (by decide) ?_
    show AW Γ l mX12_law (d + 1) b 6 [vR 171, vI v1, vU] [] (stt g1) K
    refine aw_aload_n (k' := 0) (by decide +kernel) rfl ?_
    refine aw_iload_n (k' := 1) (by decide +kernel) rfl ?_
    refine ax_if_ge (off := 10) (tgt := 18) (x' := wr v1) (by decide +kernel) (by decide) rfl (fun hc => ?_) (fun hc => ?_)
    · have hG := hG.1 hc
      refine aw_iconst (n := -1) (by decide +kernel) ?_
      refine pfX12_33 rfl (by decide +kernel) (OB.at (ci := 10) (show shp 171 = (20, 0) by decide +kernel) (by decide)) ?_
      show AW Γ l mX12_law (d + 1) b 22 [vR 171, vI v1, vU] [] (stt (upd2 g1 171 14 (-1))) K
      refine aw_aload_n (k' := 0) (by decide +kernel) rfl ?_
      refine aw_iload_n (k' := 1) (by decide +kernel) rfl ?_
      refine ax_if_ge (off := 7) (tgt := 31) (x' := wr v1) (by decide +kernel) (by decide) rfl (fun hc => ?_) (fun hc => ?_)
      · have hG := hG.1 hc
        refine aw_iconst (n := 0) (by decide +kernel) ?_
        refine aw_iconst (n := 1) (by decide +kernel) ?_
        refine aw_callV (y := yX12_throwsIf) (M2 := mX12_throwsIf) (as := [vI 0, vI 1]) (S := []) (t := 171) (d2 := d) (b2 := 0) (b3 := b) cwX12_throwsIf mlX12_279 imX12_throwsIf seX12_throwsIf (by decide +kernel) rfl (ci := 10) rfl (OB.at (ci := 10) (show shp 171 = (20, 0) by decide +kernel) (by decide)) (Nat.le_refl _) (Nat.le_of_eq (Nat.zero_add _)) rfl rfl (by simp [oneSlot]) (Nat.le_of_ble_eq_true rfl) (c_throwsIf0 ?_)
        show AW Γ l mX12_law (d + 1) b 36 [vR 171, vI v1, vU] [vI 0] (stt (upd2 g1 171 14 (-1))) K
        refine ax_if_eq (off := 5) (tgt := 41) (x' := 0) (by decide +kernel) (by decide) (by decide +kernel) (fun hc => ?_) (fun hc => absurd (by decide) hc)
        refine aw_aload_n (k' := 0) (by decide +kernel) rfl ?_
        refine gfX12_13 rfl (by decide +kernel) (OB.at (ci := 10) (show shp 171 = (20, 0) by decide +kernel) (by decide)) ?_
        refine AW.topR (show RC 171 1 = 172 by decide +kernel) ?_
        refine aw_sipush (n := 1335) (by decide +kernel) (by decide +kernel) ?_
        refine aw_iload_n (k' := 1) (by decide +kernel) rfl ?_
        refine ax_iast (i := 1335) (by decide +kernel) (isA_lit (show shp 172 = (0, 2184) by decide +kernel) (by decide)) (by decide +kernel) ⟨by decide, by decide⟩ ?_
        show AW Γ l mX12_law (d + 1) b 50 [vR 171, vI v1, vU] [] (stt (upd2 (upd2 g1 171 14 (-1)) 172 1335 v1)) K
        show AW Γ l mX12_law (d + 1) b 50 [vR 171, vI v1, vU] [] (stt (upd2 (upd2 g1 171 14 (-1)) 172 1335 v1)) K
        generalize eg2 : upd2 (upd2 g1 171 14 (-1)) 172 1335 v1 = g2
        replace hG := hG g2 eg2.symm
        refine aw_iconst (n := 0) (by decide +kernel) ?_
        refine aw_istore_n (k' := 2) (by decide +kernel) (by decide) ?_
        show AW Γ l mX12_law (d + 1) b 52 [vR 171, vI v1, vI 0] [] (stt g2) K
        exact hG
      · have hG := hG.2 hc
        refine aw_iconst (n := 1) (by decide +kernel) ?_
        refine aw_goto (off := 4) (tgt := 32) (by decide +kernel) (by decide) ?_
        refine aw_iconst (n := 1) (by decide +kernel) ?_
        refine aw_callV (y := yX12_throwsIf) (M2 := mX12_throwsIf) (as := [vI 1, vI 1]) (S := []) (t := 171) (d2 := d) (b2 := 0) (b3 := b) cwX12_throwsIf mlX12_279 imX12_throwsIf seX12_throwsIf (by decide +kernel) rfl (ci := 10) rfl (OB.at (ci := 10) (show shp 171 = (20, 0) by decide +kernel) (by decide)) (Nat.le_refl _) (Nat.le_of_eq (Nat.zero_add _)) rfl rfl (by simp [oneSlot]) (Nat.le_of_ble_eq_true rfl) (c_throwsIf1 ?_)
        show AW Γ l mX12_law (d + 1) b 36 [vR 171, vI v1, vU] [vI 1] (stt (upd2 (upd2 g1 171 14 (-1)) 171 0 1)) K
        refine ax_if_eq (off := 5) (tgt := 41) (x' := 1) (by decide +kernel) (by decide) (by decide +kernel) (fun hc => absurd hc (by decide)) (fun hc => ?_)
        refine aw_iconst (n := 0) (by decide +kernel) ?_
        exact aw_iret (by decide +kernel) rfl hG
    · have hG := hG.2 hc
      refine aw_aload_n (k' := 0) (by decide +kernel) rfl ?_
      refine gfX12_109 rfl (by decide +kernel) (OB.at (ci := 10) (show shp 171 = (20, 0) by decide +kernel) (by decide)) ?_
      refine aw_goto (off := 4) (tgt := 19) (by decide +kernel) (by decide) ?_
      refine pfX12_33 rfl (by decide +kernel) (OB.at (ci := 10) (show shp 171 = (20, 0) by decide +kernel) (by decide)) ?_
      show AW Γ l mX12_law (d + 1) b 22 [vR 171, vI v1, vU] [] (stt (upd2 g1 171 14 (g1 171 12))) K
      refine aw_aload_n (k' := 0) (by decide +kernel) rfl ?_
      refine aw_iload_n (k' := 1) (by decide +kernel) rfl ?_
      refine ax_if_ge (off := 7) (tgt := 31) (x' := wr v1) (by decide +kernel) (by decide) rfl (fun hc => ?_) (fun hc => ?_)
      · have hG := hG.1 hc
        refine aw_iconst (n := 0) (by decide +kernel) ?_
        refine aw_iconst (n := 1) (by decide +kernel) ?_
        refine aw_callV (y := yX12_throwsIf) (M2 := mX12_throwsIf) (as := [vI 0, vI 1]) (S := []) (t := 171) (d2 := d) (b2 := 0) (b3 := b) cwX12_throwsIf mlX12_279 imX12_throwsIf seX12_throwsIf (by decide +kernel) rfl (ci := 10) rfl (OB.at (ci := 10) (show shp 171 = (20, 0) by decide +kernel) (by decide)) (Nat.le_refl _) (Nat.le_of_eq (Nat.zero_add _)) rfl rfl (by simp [oneSlot]) (Nat.le_of_ble_eq_true rfl) (c_throwsIf0 ?_)
        show AW Γ l mX12_law (d + 1) b 36 [vR 171, vI v1, vU] [vI 0] (stt (upd2 g1 171 14 (g1 171 12))) K
        refine ax_if_eq (off := 5) (tgt := 41) (x' := 0) (by decide +kernel) (by decide) (by decide +kernel) (fun hc => ?_) (fun hc => absurd (by decide) hc)
        refine aw_aload_n (k' := 0) (by decide +kernel) rfl ?_
        refine gfX12_13 rfl (by decide +kernel) (OB.at (ci := 10) (show shp 171 = (20, 0) by decide +kernel) (by decide)) ?_
        refine AW.topR (show RC 171 1 = 172 by decide +kernel) ?_
        refine aw_sipush (n := 1335) (by decide +kernel) (by decide +kernel) ?_
        refine aw_iload_n (k' := 1) (by decide +kernel) rfl ?_
        refine ax_iast (i := 1335) (by decide +kernel) (isA_lit (show shp 172 = (0, 2184) by decide +kernel) (by decide)) (by decide +kernel) ⟨by decide, by decide⟩ ?_
        show AW Γ l mX12_law (d + 1) b 50 [vR 171, vI v1, vU] [] (stt (upd2 (upd2 g1 171 14 (g1 171 12)) 172 1335 v1)) K
        show AW Γ l mX12_law (d + 1) b 50 [vR 171, vI v1, vU] [] (stt (upd2 (upd2 g1 171 14 (g1 171 12)) 172 1335 v1)) K
        generalize eg3 : upd2 (upd2 g1 171 14 (g1 171 12)) 172 1335 v1 = g3
        replace hG := hG g3 eg3.symm
        refine aw_iconst (n := 0) (by decide +kernel) ?_
        refine aw_istore_n (k' := 2) (by decide +kernel) (by decide) ?_
        show AW Γ l mX12_law (d + 1) b 52 [vR 171, vI v1, vI 0] [] (stt g3) K
        exact hG
      · have hG := hG.2 hc
        refine aw_iconst (n := 1) (by decide +kernel) ?_
        refine aw_goto (off := 4) (tgt := 32) (by decide +kernel) (by decide) ?_
        refine aw_iconst (n := 1) (by decide +kernel) ?_
        refine aw_callV (y := yX12_throwsIf) (M2 := mX12_throwsIf) (as := [vI 1, vI 1]) (S := []) (t := 171) (d2 := d) (b2 := 0) (b3 := b) cwX12_throwsIf mlX12_279 imX12_throwsIf seX12_throwsIf (by decide +kernel) rfl (ci := 10) rfl (OB.at (ci := 10) (show shp 171 = (20, 0) by decide +kernel) (by decide)) (Nat.le_refl _) (Nat.le_of_eq (Nat.zero_add _)) rfl rfl (by simp [oneSlot]) (Nat.le_of_ble_eq_true rfl) (c_throwsIf1 ?_)
        show AW Γ l mX12_law (d + 1) b 36 [vR 171, vI v1, vU] [vI 1] (stt (upd2 (upd2 g1 171 14 (g1 171 12)) 171 0 1)) K
        refine ax_if_eq (off := 5) (tgt := 41) (x' := 1) (by decide +kernel) (by decide) (by decide +kernel) (fun hc => absurd hc (by decide)) (fun hc => ?_)
        refine aw_iconst (n := 0) (by decide +kernel) ?_
        exact aw_iret (by decide +kernel) rfl hG
  · exact hG
set_option maxHeartbeats 1000000 in
theorem wpX12_law_52 {Γ : Cfg} {l : Launch} {d b : Nat} {g : GG} {K : Ou → HP → Prop} {y1 : Int} {y2 : Int} (hF : (849 ≤ wr y2 → K (.inl (vI y1)) (stt (upd2 (upd2 g 172 2 1) 171 7 0))) ∧ (¬ (849 ≤ wr y2) → (0 ≤ wr (1335 + y2) ∧ wr (1335 + y2) < 2184) ∧ ((0 ≤ wr (486 + y2) ∧ wr (486 + y2) < 2184) ∧ (∀ g1 : GG, g1 = upd2 g 172 (wr (486 + y2)) (g 172 (wr (1335 + y2))) → AW Γ l mX12_law (d + 1) b 52 [vR 171, vI y1, vI (y2 + 1)] [] (stt g1) K)))) : AW Γ l mX12_law (d + 1) b 52 [vR 171, vI y1, vI y2] [] (stt g) K := by
  refine aw_iload_n (k' := 2) (by decide +kernel) rfl ?_
  refine aw_sipush (n := 849) (by decide +kernel) (by decide +kernel) ?_
  refine ax_icmp_ge (off := 29) (tgt := 85) (x' := wr y2) (y' := 849) (by decide +kernel) (by decide) rfl (by decide +kernel) (fun hc => ?_) (fun hc => ?_)
  · have hF := hF.1 hc
    refine aw_aload_n (k' := 0) (by decide +kernel) rfl ?_
    refine gfX12_13 rfl (by decide +kernel) (OB.at (ci := 10) (show shp 171 = (20, 0) by decide +kernel) (by decide)) ?_
    refine AW.topR (show RC 171 1 = 172 by decide +kernel) ?_
    refine aw_iconst (n := 2) (by decide +kernel) ?_
    refine aw_iconst (n := 1) (by decide +kernel) ?_
    refine ax_iast (i := 2) (by decide +kernel) (isA_lit (show shp 172 = (0, 2184) by decide +kernel) (by decide)) (by decide +kernel) ⟨by decide, by decide⟩ ?_
    show AW Γ l mX12_law (d + 1) b 92 [vR 171, vI y1, vI y2] [] (stt (upd2 g 172 2 1)) K
    refine aw_aload_n (k' := 0) (by decide +kernel) rfl ?_
    refine aw_iconst (n := 0) (by decide +kernel) ?_
    refine pfX12_77 rfl (by decide +kernel) (OB.at (ci := 10) (show shp 171 = (20, 0) by decide +kernel) (by decide)) ?_
    show AW Γ l mX12_law (d + 1) b 97 [vR 171, vI y1, vI y2] [] (stt (upd2 (upd2 g 172 2 1) 171 7 0)) K
    refine aw_iload_n (k' := 1) (by decide +kernel) rfl ?_
    exact aw_iret (by decide +kernel) rfl hF
  · have hF := hF.2 hc
    refine aw_aload_n (k' := 0) (by decide +kernel) rfl ?_
    refine gfX12_13 rfl (by decide +kernel) (OB.at (ci := 10) (show shp 171 = (20, 0) by decide +kernel) (by decide)) ?_
    refine AW.topR (show RC 171 1 = 172 by decide +kernel) ?_
    refine aw_sipush (n := 486) (by decide +kernel) (by decide +kernel) ?_
    refine aw_iload_n (k' := 2) (by decide +kernel) rfl ?_
    refine aw_iadd (by decide +kernel) ?_
    refine aw_aload_n (k' := 0) (by decide +kernel) rfl ?_
    refine gfX12_13 rfl (by decide +kernel) (OB.at (ci := 10) (show shp 171 = (20, 0) by decide +kernel) (by decide)) ?_
    refine AW.topR (show RC 171 1 = 172 by decide +kernel) ?_
    refine aw_sipush (n := 1335) (by decide +kernel) (by decide +kernel) ?_
    refine aw_iload_n (k' := 2) (by decide +kernel) rfl ?_
    refine aw_iadd (by decide +kernel) ?_
    refine ax_iald (i := wr (1335 + y2)) (by decide +kernel) (isA_lit (show shp 172 = (0, 2184) by decide +kernel) (by decide)) rfl hF.1 ?_
    replace hF := hF.2
    refine ax_iast (i := wr (486 + y2)) (by decide +kernel) (isA_lit (show shp 172 = (0, 2184) by decide +kernel) (by decide)) rfl hF.1 ?_
    show AW Γ l mX12_law (d + 1) b 79 [vR 171, vI y1, vI y2] [] (stt (upd2 g 172 (wr (486 + y2)) (g 172 (wr (1335 + y2))))) K
    replace hF := hF.2
    show AW Γ l mX12_law (d + 1) b 79 [vR 171, vI y1, vI y2] [] (stt (upd2 g 172 (wr (486 + y2)) (g 172 (wr (1335 + y2))))) K
    generalize eg1 : upd2 g 172 (wr (486 + y2)) (g 172 (wr (1335 + y2))) = g1
    replace hF := hF g1 eg1.symm
    refine aw_iinc (i := 2) (n := 1) (by decide +kernel) rfl (by decide) ?_
    show AW Γ l mX12_law (d + 1) b 82 [vR 171, vI y1, vI (y2 + 1)] [] (stt g1) K
    refine aw_goto (off := -30) (tgt := 52) (by decide +kernel) (by decide) ?_
    exact hF

set_option maxHeartbeats 1000000 in
theorem wpX12_begins {Γ : Cfg} {l : Launch} {d b : Nat} {g : GG} {K : Ou → HP → Prop} {x1 : Int} (hF : AW Γ l mX12_begins d b 2 [vR 171, vI x1, vI 0] [] (stt g) K) : Ct Γ l d b yX12_begins mX12_begins [vR 171, vI x1] (stt g) K := by
  refine Ct.enter (L := [vR 171, vI x1, vU]) rfl rfl rfl (by decide +kernel) (by simp [oneSlot]) (Nat.le_of_ble_eq_true rfl) rfl ?_
  refine aw_iconst (n := 0) (by decide +kernel) ?_
  refine aw_istore_n (k' := 2) (by decide +kernel) (by decide) ?_
  show AW Γ l mX12_begins d b 2 [vR 171, vI x1, vI 0] [] (stt g) K
  exact hF
set_option maxHeartbeats 1000000 in
theorem wpX12_begins_2 {Γ : Cfg} {l : Launch} {d b : Nat} {g : GG} {K : Ou → HP → Prop} {x1 : Int} {y2 : Int} (hF : (6 ≤ wr y2 → K (.inl vU) (stt (upd2 g 171 19 x1))) ∧ (¬ (6 ≤ wr y2) → (¬ wr y2 = 3 → (0 ≤ wr ((6 * x1) + y2) ∧ wr ((6 * x1) + y2) < 30) ∧ (AW Γ l mX12_begins d b 2 [vR 171, vI x1, vI (y2 + 1)] [] (stt (upd2 g 179 (wr ((6 * x1) + y2)) 0)) K)) ∧ (¬ (¬ wr y2 = 3) → (0 ≤ wr ((6 * x1) + y2) ∧ wr ((6 * x1) + y2) < 30) ∧ (AW Γ l mX12_begins d b 2 [vR 171, vI x1, vI (y2 + 1)] [] (stt (upd2 g 179 (wr ((6 * x1) + y2)) 10)) K)))) : AW Γ l mX12_begins d b 2 [vR 171, vI x1, vI y2] [] (stt g) K := by
  refine aw_iload_n (k' := 2) (by decide +kernel) rfl ?_
  refine aw_bipush (n := 6) (by decide +kernel) (by decide +kernel) ?_
  refine ax_icmp_ge (off := 31) (tgt := 36) (x' := wr y2) (y' := 6) (by decide +kernel) (by decide) rfl (by decide +kernel) (fun hc => ?_) (fun hc => ?_)
  · have hF := hF.1 hc
    refine aw_aload_n (k' := 0) (by decide +kernel) rfl ?_
    refine aw_iload_n (k' := 1) (by decide +kernel) rfl ?_
    refine pfX12_282 rfl (by decide +kernel) (OB.at (ci := 10) (show shp 171 = (20, 0) by decide +kernel) (by decide)) ?_
    show AW Γ l mX12_begins d b 41 [vR 171, vI x1, vI y2] [] (stt (upd2 g 171 19 x1)) K
    exact aw_vret (by decide +kernel) rfl hF
  · have hF := hF.2 hc
    refine aw_aload_n (k' := 0) (by decide +kernel) rfl ?_
    refine gfX12_39 rfl (by decide +kernel) (OB.at (ci := 10) (show shp 171 = (20, 0) by decide +kernel) (by decide)) ?_
    refine AW.topR (show RC 171 18 = 179 by decide +kernel) ?_
    refine aw_bipush (n := 6) (by decide +kernel) (by decide +kernel) ?_
    refine aw_iload_n (k' := 1) (by decide +kernel) rfl ?_
    refine aw_imul (by decide +kernel) ?_
    refine aw_iload_n (k' := 2) (by decide +kernel) rfl ?_
    refine aw_iadd (by decide +kernel) ?_
    refine aw_iload_n (k' := 2) (by decide +kernel) rfl ?_
    refine aw_iconst (n := 3) (by decide +kernel) ?_
    refine ax_icmp_ne (off := 8) (tgt := 28) (x' := wr y2) (y' := 3) (by decide +kernel) (by decide) rfl (by decide +kernel) (fun hc => ?_) (fun hc => ?_)
    · have hF := hF.1 hc
      refine aw_iconst (n := 0) (by decide +kernel) ?_
      refine ax_iast (i := wr ((6 * x1) + y2)) (by decide +kernel) (isA_lit (show shp 179 = (0, 30) by decide +kernel) (by decide)) rfl hF.1 ?_
      show AW Γ l mX12_begins d b 30 [vR 171, vI x1, vI y2] [] (stt (upd2 g 179 (wr ((6 * x1) + y2)) 0)) K
      replace hF := hF.2
      refine aw_iinc (i := 2) (n := 1) (by decide +kernel) rfl (by decide) ?_
      show AW Γ l mX12_begins d b 33 [vR 171, vI x1, vI (y2 + 1)] [] (stt (upd2 g 179 (wr ((6 * x1) + y2)) 0)) K
      refine aw_goto (off := -31) (tgt := 2) (by decide +kernel) (by decide) ?_
      exact hF
    · have hF := hF.2 hc
      refine aw_bipush (n := 10) (by decide +kernel) (by decide +kernel) ?_
      refine aw_goto (off := 4) (tgt := 29) (by decide +kernel) (by decide) ?_
      refine ax_iast (i := wr ((6 * x1) + y2)) (by decide +kernel) (isA_lit (show shp 179 = (0, 30) by decide +kernel) (by decide)) rfl hF.1 ?_
      show AW Γ l mX12_begins d b 30 [vR 171, vI x1, vI y2] [] (stt (upd2 g 179 (wr ((6 * x1) + y2)) 10)) K
      replace hF := hF.2
      refine aw_iinc (i := 2) (n := 1) (by decide +kernel) rfl (by decide) ?_
      show AW Γ l mX12_begins d b 33 [vR 171, vI x1, vI (y2 + 1)] [] (stt (upd2 g 179 (wr ((6 * x1) + y2)) 10)) K
      refine aw_goto (off := -31) (tgt := 2) (by decide +kernel) (by decide) ?_
      exact hF

