/-! WALKS: the class -/
set_option maxHeartbeats 1000000 in
theorem wpX11_feed {Γ : Cfg} {l : Launch} {d b : Nat} {g : GG} {K : Ou → HP → Prop} {x1 : Int} {x2 : Int} {x3 : Int} {x4 : Int} {x5 : Int} (hF : (wr ((g 2 1) + 20) ≤ 400 → Ct Γ l d 0 yX9_push mX9_push [vR 2, vI x1] (stt g) (bV (fun g1 => Ct Γ l d 0 yX9_push mX9_push [vR 2, vI x2] (stt g1) (bV (fun g2 => Ct Γ l d 0 yX9_push mX9_push [vR 2, vI x3] (stt g2) (bV (fun g3 => Ct Γ l d 0 yX9_push mX9_push [vR 2, vI x4] (stt g3) (bV (fun g4 => Ct Γ l d 0 yX9_push mX9_push [vR 2, vI x5] (stt g4) (bV (fun g5 => K (.inl (vI (g5 2 1))) (stt g5)) K)) K)) K)) K)) K)) ∧ (¬ (wr ((g 2 1) + 20) ≤ 400) → K (.inl (vI (-1))) (stt g))) : Ct Γ l (d + 1) b yX11_feed mX11_feed [vR 1, vI x1, vI x2, vI x3, vI x4, vI x5] (stt g) K := by
  refine Ct.enter (L := [vR 1, vI x1, vI x2, vI x3, vI x4, vI x5]) rfl rfl rfl (by decide +kernel) (by simp [oneSlot]) (Nat.le_of_ble_eq_true rfl) rfl ?_
  refine aw_aload_n (k' := 0) (by decide +kernel) rfl ?_
  refine gfX11_10 rfl (by decide +kernel) (OB.at (ci := 9) (show shp 1 = (19, 0) by decide +kernel) (by decide)) ?_
  refine AW.topR (show RC 1 0 = 2 by decide +kernel) ?_
  refine gfX11_103 rfl (by decide +kernel) (OB.at (ci := 7) (show shp 2 = (17, 0) by decide +kernel) (by decide)) ?_
  refine aw_bipush (n := 20) (by decide +kernel) (by decide +kernel) ?_
  refine aw_iadd (by decide +kernel) ?_
  refine aw_sipush (n := 400) (by decide +kernel) (by decide +kernel) ?_
  refine ax_icmp_le (off := 5) (tgt := 18) (x' := wr ((g 2 1) + 20)) (y' := 400) (by decide +kernel) (by decide) rfl (by decide +kernel) (fun hc => ?_) (fun hc => ?_)
  · have hF := hF.1 hc
    refine aw_aload_n (k' := 0) (by decide +kernel) rfl ?_
    refine gfX11_10 rfl (by decide +kernel) (OB.at (ci := 9) (show shp 1 = (19, 0) by decide +kernel) (by decide)) ?_
    refine AW.topR (show RC 1 0 = 2 by decide +kernel) ?_
    refine aw_iload_n (k' := 1) (by decide +kernel) rfl ?_
    refine aw_callV (y := yX9_push) (M2 := mX9_push) (as := [vI x1]) (S := []) (t := 2) (d2 := d) (b2 := 0) (b3 := b) cwX9_push mlX11_106 imX9_push seX9_push (by decide +kernel) rfl (ci := 7) rfl (OB.at (ci := 7) (show shp 2 = (17, 0) by decide +kernel) (by decide)) (Nat.le_refl _) (Nat.le_of_eq (Nat.zero_add _)) rfl rfl (by simp [oneSlot]) (Nat.le_of_ble_eq_true rfl) (Ct.mono hF ?_)
    rintro o h' (⟨g1, rfl, rfl, hG⟩ | ⟨E, g, rfl, rfl, hG⟩)
    · show AW Γ l mX11_feed (d + 1) b 26 [vR 1, vI x1, vI x2, vI x3, vI x4, vI x5] [] (stt g1) K
      refine aw_aload_n (k' := 0) (by decide +kernel) rfl ?_
      refine gfX11_10 rfl (by decide +kernel) (OB.at (ci := 9) (show shp 1 = (19, 0) by decide +kernel) (by decide)) ?_
      refine AW.topR (show RC 1 0 = 2 by decide +kernel) ?_
      refine aw_iload_n (k' := 2) (by decide +kernel) rfl ?_
      refine aw_callV (y := yX9_push) (M2 := mX9_push) (as := [vI x2]) (S := []) (t := 2) (d2 := d) (b2 := 0) (b3 := b) cwX9_push mlX11_106 imX9_push seX9_push (by decide +kernel) rfl (ci := 7) rfl (OB.at (ci := 7) (show shp 2 = (17, 0) by decide +kernel) (by decide)) (Nat.le_refl _) (Nat.le_of_eq (Nat.zero_add _)) rfl rfl (by simp [oneSlot]) (Nat.le_of_ble_eq_true rfl) (Ct.mono hG ?_)
      rintro o h' (⟨g2, rfl, rfl, hG⟩ | ⟨E, g, rfl, rfl, hG⟩)
      · show AW Γ l mX11_feed (d + 1) b 34 [vR 1, vI x1, vI x2, vI x3, vI x4, vI x5] [] (stt g2) K
        refine aw_aload_n (k' := 0) (by decide +kernel) rfl ?_
        refine gfX11_10 rfl (by decide +kernel) (OB.at (ci := 9) (show shp 1 = (19, 0) by decide +kernel) (by decide)) ?_
        refine AW.topR (show RC 1 0 = 2 by decide +kernel) ?_
        refine aw_iload_n (k' := 3) (by decide +kernel) rfl ?_
        refine aw_callV (y := yX9_push) (M2 := mX9_push) (as := [vI x3]) (S := []) (t := 2) (d2 := d) (b2 := 0) (b3 := b) cwX9_push mlX11_106 imX9_push seX9_push (by decide +kernel) rfl (ci := 7) rfl (OB.at (ci := 7) (show shp 2 = (17, 0) by decide +kernel) (by decide)) (Nat.le_refl _) (Nat.le_of_eq (Nat.zero_add _)) rfl rfl (by simp [oneSlot]) (Nat.le_of_ble_eq_true rfl) (Ct.mono hG ?_)
        rintro o h' (⟨g3, rfl, rfl, hG⟩ | ⟨E, g, rfl, rfl, hG⟩)
        · show AW Γ l mX11_feed (d + 1) b 42 [vR 1, vI x1, vI x2, vI x3, vI x4, vI x5] [] (stt g3) K
          refine aw_aload_n (k' := 0) (by decide +kernel) rfl ?_
          refine gfX11_10 rfl (by decide +kernel) (OB.at (ci := 9) (show shp 1 = (19, 0) by decide +kernel) (by decide)) ?_
          refine AW.topR (show RC 1 0 = 2 by decide +kernel) ?_
          refine aw_iload (i := 4) (by decide +kernel) rfl ?_
          refine aw_callV (y := yX9_push) (M2 := mX9_push) (as := [vI x4]) (S := []) (t := 2) (d2 := d) (b2 := 0) (b3 := b) cwX9_push mlX11_106 imX9_push seX9_push (by decide +kernel) rfl (ci := 7) rfl (OB.at (ci := 7) (show shp 2 = (17, 0) by decide +kernel) (by decide)) (Nat.le_refl _) (Nat.le_of_eq (Nat.zero_add _)) rfl rfl (by simp [oneSlot]) (Nat.le_of_ble_eq_true rfl) (Ct.mono hG ?_)
          rintro o h' (⟨g4, rfl, rfl, hG⟩ | ⟨E, g, rfl, rfl, hG⟩)
          · show AW Γ l mX11_feed (d + 1) b 51 [vR 1, vI x1, vI x2, vI x3, vI x4, vI x5] [] (stt g4) K
            refine aw_aload_n (k' := 0) (by decide +kernel) rfl ?_
            refine gfX11_10 rfl (by decide +kernel) (OB.at (ci := 9) (show shp 1 = (19, 0) by decide +kernel) (by decide)) ?_
            refine AW.topR (show RC 1 0 = 2 by decide +kernel) ?_
            refine aw_iload (i := 5) (by decide +kernel) rfl ?_
            refine aw_callV (y := yX9_push) (M2 := mX9_push) (as := [vI x5]) (S := []) (t := 2) (d2 := d) (b2 := 0) (b3 := b) cwX9_push mlX11_106 imX9_push seX9_push (by decide +kernel) rfl (ci := 7) rfl (OB.at (ci := 7) (show shp 2 = (17, 0) by decide +kernel) (by decide)) (Nat.le_refl _) (Nat.le_of_eq (Nat.zero_add _)) rfl rfl (by simp [oneSlot]) (Nat.le_of_ble_eq_true rfl) (Ct.mono hG ?_)
            rintro o h' (⟨g5, rfl, rfl, hG⟩ | ⟨E, g, rfl, rfl, hG⟩)
            · show AW Γ l mX11_feed (d + 1) b 60 [vR 1, vI x1, vI x2, vI x3, vI x4, vI x5] [] (stt g5) K
              refine aw_aload_n (k' := 0) (by decide +kernel) rfl ?_
              refine gfX11_10 rfl (by decide +kernel) (OB.at (ci := 9) (show shp 1 = (19, 0) by decide +kernel) (by decide)) ?_
              refine AW.topR (show RC 1 0 = 2 by decide +kernel) ?_
              refine gfX11_103 rfl (by decide +kernel) (OB.at (ci := 7) (show shp 2 = (17, 0) by decide +kernel) (by decide)) ?_
              exact aw_iret (by decide +kernel) rfl hG
            · exact hG
          · exact hG
        · exact hG
      · exact hG
    · exact hG
  · have hF := hF.2 hc
    refine aw_iconst (n := -1) (by decide +kernel) ?_
    exact aw_iret (by decide +kernel) rfl hF

set_option maxHeartbeats 1000000 in
theorem wpX11_end {Γ : Cfg} {l : Launch} {d b : Nat} {g : GG} {K : Ou → HP → Prop} {x1 : Int} (hF : (wr x1 < 0 → K (.inl (vI 0)) (stt g)) ∧ (¬ (wr x1 < 0) → (wr x1 ≤ wr (g 2 1) → K (.inl (vI 1)) (stt (upd2 g 2 1 x1))) ∧ (¬ (wr x1 ≤ wr (g 2 1)) → K (.inl (vI 0)) (stt g)))) : Ct Γ l d b yX11_end mX11_end [vR 1, vI x1] (stt g) K := by
  refine Ct.enter (L := [vR 1, vI x1]) rfl rfl rfl (by decide +kernel) (by simp [oneSlot]) (Nat.le_of_ble_eq_true rfl) rfl ?_
  refine aw_iload_n (k' := 1) (by decide +kernel) rfl ?_
  refine ax_if_lt (off := 14) (tgt := 15) (x' := wr x1) (by decide +kernel) (by decide) rfl (fun hc => ?_) (fun hc => ?_)
  · have hF := hF.1 hc
    refine aw_iconst (n := 0) (by decide +kernel) ?_
    exact aw_zret (by decide +kernel) rfl rfl hF
  · have hF := hF.2 hc
    refine aw_iload_n (k' := 1) (by decide +kernel) rfl ?_
    refine aw_aload_n (k' := 0) (by decide +kernel) rfl ?_
    refine gfX11_10 rfl (by decide +kernel) (OB.at (ci := 9) (show shp 1 = (19, 0) by decide +kernel) (by decide)) ?_
    refine AW.topR (show RC 1 0 = 2 by decide +kernel) ?_
    refine gfX11_103 rfl (by decide +kernel) (OB.at (ci := 7) (show shp 2 = (17, 0) by decide +kernel) (by decide)) ?_
    refine ax_icmp_le (off := 5) (tgt := 17) (x' := wr x1) (y' := wr (g 2 1)) (by decide +kernel) (by decide) rfl rfl (fun hc => ?_) (fun hc => ?_)
    · have hF := hF.1 hc
      refine aw_aload_n (k' := 0) (by decide +kernel) rfl ?_
      refine gfX11_10 rfl (by decide +kernel) (OB.at (ci := 9) (show shp 1 = (19, 0) by decide +kernel) (by decide)) ?_
      refine AW.topR (show RC 1 0 = 2 by decide +kernel) ?_
      refine aw_iload_n (k' := 1) (by decide +kernel) rfl ?_
      refine pfX11_103 rfl (by decide +kernel) (OB.at (ci := 7) (show shp 2 = (17, 0) by decide +kernel) (by decide)) ?_
      show AW Γ l mX11_end d b 25 [vR 1, vI x1] [] (stt (upd2 g 2 1 x1)) K
      refine aw_iconst (n := 1) (by decide +kernel) ?_
      exact aw_zret (by decide +kernel) rfl rfl hF
    · have hF := hF.2 hc
      refine aw_iconst (n := 0) (by decide +kernel) ?_
      exact aw_zret (by decide +kernel) rfl rfl hF

set_option maxHeartbeats 1000000 in
theorem wpX11_hills {Γ : Cfg} {l : Launch} {d b : Nat} {g : GG} {K : Ou → HP → Prop}  (hb : 1 ≤ b) (hF : Ct Γ l d 0 yX11_scanTape mX11_scanTape [vR 1] (stt g) (bV (fun g1 => Ct Γ l d 0 yX2_copy mX2_copy [vR 17, vR 8] (stt g1) (bV (fun g2 => Ct Γ l d 0 yX3_readText mX3_readText [vR 4, vR 17] (stt g2) (bI (fun v1 g3 => (¬ wr v1 = 0 → (wr (g3 8 9) < 12 → Ct Γ l d 0 yX2_copy mX2_copy [vR 8, vR 17] (stt (upd2 g3 17 9 ((g3 17 9) + 1))) (bV (fun g4 => K (.inl (vI ((upd2 g4 1 15 0) 8 9))) (stt (upd2 g4 1 15 0))) K)) ∧ (¬ (wr (g3 8 9) < 12) → K (.inr "java/lang/UnsupportedOperationException") (stt g3))) ∧ (¬ (¬ wr v1 = 0) → K (.inr "java/lang/IllegalArgumentException") (stt (upd2 g3 1 17 (g3 4 5))))) K)) K)) K)) : Ct Γ l (d + 1) b yX11_hills mX11_hills [vR 1] (stt g) K := by
  refine Ct.enter (L := [vR 1]) rfl rfl rfl (by decide +kernel) (by simp [oneSlot]) (Nat.le_of_ble_eq_true rfl) rfl ?_
  refine aw_aload_n (k' := 0) (by decide +kernel) rfl ?_
  refine aw_callV (y := yX11_scanTape) (M2 := mX11_scanTape) (as := []) (S := []) (t := 1) (d2 := d) (b2 := 0) (b3 := b) cwX11_scanTape mlX11_110 imX11_scanTape seX11_scanTape (by decide +kernel) rfl (ci := 9) rfl (OB.at (ci := 9) (show shp 1 = (19, 0) by decide +kernel) (by decide)) (Nat.le_refl _) (Nat.le_of_eq (Nat.zero_add _)) rfl rfl (by simp [oneSlot]) (Nat.le_of_ble_eq_true rfl) (Ct.mono hF ?_)
  rintro o h' (⟨g1, rfl, rfl, hG⟩ | ⟨E, g, rfl, rfl, hG⟩)
  · show AW Γ l mX11_hills (d + 1) b 4 [vR 1] [] (stt g1) K
    refine aw_aload_n (k' := 0) (by decide +kernel) rfl ?_
    refine gfX11_30 rfl (by decide +kernel) (OB.at (ci := 9) (show shp 1 = (19, 0) by decide +kernel) (by decide)) ?_
    refine AW.topR (show RC 1 3 = 17 by decide +kernel) ?_
    refine aw_aload_n (k' := 0) (by decide +kernel) rfl ?_
    refine gfX11_26 rfl (by decide +kernel) (OB.at (ci := 9) (show shp 1 = (19, 0) by decide +kernel) (by decide)) ?_
    refine AW.topR (show RC 1 2 = 8 by decide +kernel) ?_
    refine aw_callV (y := yX2_copy) (M2 := mX2_copy) (as := [vR 8]) (S := []) (t := 17) (d2 := d) (b2 := 0) (b3 := b) cwX2_copy mlX11_113 imX2_copy seX2_copy (by decide +kernel) rfl (ci := 2) rfl (OB.at (ci := 2) (show shp 17 = (12, 0) by decide +kernel) (by decide)) (Nat.le_refl _) (Nat.le_of_eq (Nat.zero_add _)) rfl rfl (by simp [oneSlot]) (Nat.le_of_ble_eq_true rfl) (Ct.mono hG ?_)
    rintro o h' (⟨g2, rfl, rfl, hG⟩ | ⟨E, g, rfl, rfl, hG⟩)
    · show AW Γ l mX11_hills (d + 1) b 15 [vR 1] [] (stt g2) K
      refine aw_aload_n (k' := 0) (by decide +kernel) rfl ?_
      refine gfX11_19 rfl (by decide +kernel) (OB.at (ci := 9) (show shp 1 = (19, 0) by decide +kernel) (by decide)) ?_
      refine AW.topR (show RC 1 1 = 4 by decide +kernel) ?_
      refine aw_aload_n (k' := 0) (by decide +kernel) rfl ?_
      refine gfX11_30 rfl (by decide +kernel) (OB.at (ci := 9) (show shp 1 = (19, 0) by decide +kernel) (by decide)) ?_
      refine AW.topR (show RC 1 3 = 17 by decide +kernel) ?_
      refine aw_callS (y := yX3_readText) (M2 := mX3_readText) (as := [vR 4, vR 17]) (S := []) (d2 := d) (b2 := 0) (b3 := b) cwX3_readText mlX11_117 stX3_readText (by decide +kernel) rfl (Nat.le_refl _) (Nat.le_of_eq (Nat.zero_add _)) rfl rfl (by simp [oneSlot]) (Nat.le_of_ble_eq_true rfl) (Ct.mono hG ?_)
      rintro o h' (⟨v1, g3, rfl, rfl, hG⟩ | ⟨E, g, rfl, rfl, hG⟩)
      · show AW Γ l mX11_hills (d + 1) b 26 [vR 1] [vI v1] (stt g3) K
        refine ax_if_ne (off := 24) (tgt := 50) (x' := wr v1) (by decide +kernel) (by decide) rfl (fun hc => ?_) (fun hc => ?_)
        · have hG := hG.1 hc
          refine aw_aload_n (k' := 0) (by decide +kernel) rfl ?_
          refine gfX11_26 rfl (by decide +kernel) (OB.at (ci := 9) (show shp 1 = (19, 0) by decide +kernel) (by decide)) ?_
          refine AW.topR (show RC 1 2 = 8 by decide +kernel) ?_
          refine gfX11_133 rfl (by decide +kernel) (OB.at (ci := 2) (show shp 8 = (12, 0) by decide +kernel) (by decide)) ?_
          refine aw_bipush (n := 12) (by decide +kernel) (by decide +kernel) ?_
          refine ax_icmp_lt (off := 13) (tgt := 72) (x' := wr (g3 8 9)) (y' := 12) (by decide +kernel) (by decide) rfl (by decide +kernel) (fun hc => ?_) (fun hc => ?_)
          · have hG := hG.1 hc
            refine aw_aload_n (k' := 0) (by decide +kernel) rfl ?_
            refine gfX11_30 rfl (by decide +kernel) (OB.at (ci := 9) (show shp 1 = (19, 0) by decide +kernel) (by decide)) ?_
            refine AW.topR (show RC 1 3 = 17 by decide +kernel) ?_
            refine aw_dup (by decide +kernel) trivial ?_
            refine gfX11_133 rfl (by decide +kernel) (OB.at (ci := 2) (show shp 17 = (12, 0) by decide +kernel) (by decide)) ?_
            refine aw_iconst (n := 1) (by decide +kernel) ?_
            refine aw_iadd (by decide +kernel) ?_
            refine pfX11_133 rfl (by decide +kernel) (OB.at (ci := 2) (show shp 17 = (12, 0) by decide +kernel) (by decide)) ?_
            show AW Γ l mX11_hills (d + 1) b 85 [vR 1] [] (stt (upd2 g3 17 9 ((g3 17 9) + 1))) K
            refine aw_aload_n (k' := 0) (by decide +kernel) rfl ?_
            refine gfX11_26 rfl (by decide +kernel) (OB.at (ci := 9) (show shp 1 = (19, 0) by decide +kernel) (by decide)) ?_
            refine AW.topR (show RC 1 2 = 8 by decide +kernel) ?_
            refine aw_aload_n (k' := 0) (by decide +kernel) rfl ?_
            refine gfX11_30 rfl (by decide +kernel) (OB.at (ci := 9) (show shp 1 = (19, 0) by decide +kernel) (by decide)) ?_
            refine AW.topR (show RC 1 3 = 17 by decide +kernel) ?_
            refine aw_callV (y := yX2_copy) (M2 := mX2_copy) (as := [vR 17]) (S := []) (t := 8) (d2 := d) (b2 := 0) (b3 := b) cwX2_copy mlX11_113 imX2_copy seX2_copy (by decide +kernel) rfl (ci := 2) rfl (OB.at (ci := 2) (show shp 8 = (12, 0) by decide +kernel) (by decide)) (Nat.le_refl _) (Nat.le_of_eq (Nat.zero_add _)) rfl rfl (by simp [oneSlot]) (Nat.le_of_ble_eq_true rfl) (Ct.mono hG ?_)
            rintro o h' (⟨g4, rfl, rfl, hG⟩ | ⟨E, g, rfl, rfl, hG⟩)
            · show AW Γ l mX11_hills (d + 1) b 96 [vR 1] [] (stt g4) K
              refine aw_aload_n (k' := 0) (by decide +kernel) rfl ?_
              refine aw_iconst (n := 0) (by decide +kernel) ?_
              refine pfX11_93 rfl (by decide +kernel) (OB.at (ci := 9) (show shp 1 = (19, 0) by decide +kernel) (by decide)) ?_
              show AW Γ l mX11_hills (d + 1) b 101 [vR 1] [] (stt (upd2 g4 1 15 0)) K
              refine aw_aload_n (k' := 0) (by decide +kernel) rfl ?_
              refine gfX11_26 rfl (by decide +kernel) (OB.at (ci := 9) (show shp 1 = (19, 0) by decide +kernel) (by decide)) ?_
              refine AW.topR (show RC 1 2 = 8 by decide +kernel) ?_
              refine gfX11_133 rfl (by decide +kernel) (OB.at (ci := 2) (show shp 8 = (12, 0) by decide +kernel) (by decide)) ?_
              exact aw_iret (by decide +kernel) rfl hG
            · exact hG
          · have hG := hG.2 hc
            exact thr140 (ix := 138) (i := 1) rfl (by decide) (by decide +kernel) (by decide +kernel) (by decide +kernel) (by decide +kernel) (by decide +kernel) (by decide +kernel) rfl (by omega) rfl (by simp [oneSlot]) (Nat.le_of_ble_eq_true rfl) hG
        · have hG := hG.2 hc
          refine aw_aload_n (k' := 0) (by decide +kernel) rfl ?_
          refine aw_aload_n (k' := 0) (by decide +kernel) rfl ?_
          refine gfX11_19 rfl (by decide +kernel) (OB.at (ci := 9) (show shp 1 = (19, 0) by decide +kernel) (by decide)) ?_
          refine AW.topR (show RC 1 1 = 4 by decide +kernel) ?_
          refine gfX11_123 rfl (by decide +kernel) (OB.at (ci := 8) (show shp 4 = (18, 0) by decide +kernel) (by decide)) ?_
          refine pfX11_100 rfl (by decide +kernel) (OB.at (ci := 9) (show shp 1 = (19, 0) by decide +kernel) (by decide)) ?_
          show AW Γ l mX11_hills (d + 1) b 40 [vR 1] [] (stt (upd2 g3 1 17 (g3 4 5))) K
          exact thr130 (ix := 128) (i := 0) rfl (by decide) (by decide +kernel) (by decide +kernel) (by decide +kernel) (by decide +kernel) (by decide +kernel) (by decide +kernel) rfl (by omega) rfl (by simp [oneSlot]) (Nat.le_of_ble_eq_true rfl) hG
      · exact hG
    · exact hG
  · exact hG

set_option maxHeartbeats 1000000 in
theorem wpX11_law {Γ : Cfg} {l : Launch} {d b : Nat} {g : GG} {K : Ou → HP → Prop}  (hb : 1 ≤ b) (hF : Ct Γ l d 0 yX11_scanTape mX11_scanTape [vR 1] (stt g) (bV (fun g1 => Ct Γ l d 0 yX4_readText mX4_readText [vR 38, vR 4] (stt g1) (bI (fun v1 g2 => (¬ wr v1 = 0 → Ct Γ l d 0 yX4_copy mX4_copy [vR 35, vR 38] (stt g2) (bV (fun g3 => K (.inl (vI ((upd2 g3 1 15 0) 35 3))) (stt (upd2 g3 1 15 0))) K)) ∧ (¬ (¬ wr v1 = 0) → K (.inr "java/lang/IllegalArgumentException") (stt (upd2 g2 1 17 (g2 4 5))))) K)) K)) : Ct Γ l (d + 1) b yX11_law mX11_law [vR 1] (stt g) K := by
  refine Ct.enter (L := [vR 1]) rfl rfl rfl (by decide +kernel) (by simp [oneSlot]) (Nat.le_of_ble_eq_true rfl) rfl ?_
  refine aw_aload_n (k' := 0) (by decide +kernel) rfl ?_
  refine aw_callV (y := yX11_scanTape) (M2 := mX11_scanTape) (as := []) (S := []) (t := 1) (d2 := d) (b2 := 0) (b3 := b) cwX11_scanTape mlX11_110 imX11_scanTape seX11_scanTape (by decide +kernel) rfl (ci := 9) rfl (OB.at (ci := 9) (show shp 1 = (19, 0) by decide +kernel) (by decide)) (Nat.le_refl _) (Nat.le_of_eq (Nat.zero_add _)) rfl rfl (by simp [oneSlot]) (Nat.le_of_ble_eq_true rfl) (Ct.mono hF ?_)
  rintro o h' (⟨g1, rfl, rfl, hG⟩ | ⟨E, g, rfl, rfl, hG⟩)
  · show AW Γ l mX11_law (d + 1) b 4 [vR 1] [] (stt g1) K
    refine aw_aload_n (k' := 0) (by decide +kernel) rfl ?_
    refine gfX11_43 rfl (by decide +kernel) (OB.at (ci := 9) (show shp 1 = (19, 0) by decide +kernel) (by decide)) ?_
    refine AW.topR (show RC 1 6 = 38 by decide +kernel) ?_
    refine aw_aload_n (k' := 0) (by decide +kernel) rfl ?_
    refine gfX11_19 rfl (by decide +kernel) (OB.at (ci := 9) (show shp 1 = (19, 0) by decide +kernel) (by decide)) ?_
    refine AW.topR (show RC 1 1 = 4 by decide +kernel) ?_
    refine aw_callV (y := yX4_readText) (M2 := mX4_readText) (as := [vR 4]) (S := []) (t := 38) (d2 := d) (b2 := 0) (b3 := b) cwX4_readText mlX11_141 imX4_readText seX4_readText (by decide +kernel) rfl (ci := 3) rfl (OB.at (ci := 3) (show shp 38 = (13, 0) by decide +kernel) (by decide)) (Nat.le_refl _) (Nat.le_of_eq (Nat.zero_add _)) rfl rfl (by simp [oneSlot]) (Nat.le_of_ble_eq_true rfl) (Ct.mono hG ?_)
    rintro o h' (⟨v1, g2, rfl, rfl, hG⟩ | ⟨E, g, rfl, rfl, hG⟩)
    · show AW Γ l mX11_law (d + 1) b 15 [vR 1] [vI v1] (stt g2) K
      refine ax_if_ne (off := 24) (tgt := 39) (x' := wr v1) (by decide +kernel) (by decide) rfl (fun hc => ?_) (fun hc => ?_)
      · have hG := hG.1 hc
        refine aw_aload_n (k' := 0) (by decide +kernel) rfl ?_
        refine gfX11_39 rfl (by decide +kernel) (OB.at (ci := 9) (show shp 1 = (19, 0) by decide +kernel) (by decide)) ?_
        refine AW.topR (show RC 1 5 = 35 by decide +kernel) ?_
        refine aw_aload_n (k' := 0) (by decide +kernel) rfl ?_
        refine gfX11_43 rfl (by decide +kernel) (OB.at (ci := 9) (show shp 1 = (19, 0) by decide +kernel) (by decide)) ?_
        refine AW.topR (show RC 1 6 = 38 by decide +kernel) ?_
        refine aw_callV (y := yX4_copy) (M2 := mX4_copy) (as := [vR 38]) (S := []) (t := 35) (d2 := d) (b2 := 0) (b3 := b) cwX4_copy mlX11_146 imX4_copy seX4_copy (by decide +kernel) rfl (ci := 3) rfl (OB.at (ci := 3) (show shp 35 = (13, 0) by decide +kernel) (by decide)) (Nat.le_refl _) (Nat.le_of_eq (Nat.zero_add _)) rfl rfl (by simp [oneSlot]) (Nat.le_of_ble_eq_true rfl) (Ct.mono hG ?_)
        rintro o h' (⟨g3, rfl, rfl, hG⟩ | ⟨E, g, rfl, rfl, hG⟩)
        · show AW Γ l mX11_law (d + 1) b 50 [vR 1] [] (stt g3) K
          refine aw_aload_n (k' := 0) (by decide +kernel) rfl ?_
          refine aw_iconst (n := 0) (by decide +kernel) ?_
          refine pfX11_93 rfl (by decide +kernel) (OB.at (ci := 9) (show shp 1 = (19, 0) by decide +kernel) (by decide)) ?_
          show AW Γ l mX11_law (d + 1) b 55 [vR 1] [] (stt (upd2 g3 1 15 0)) K
          refine aw_aload_n (k' := 0) (by decide +kernel) rfl ?_
          refine gfX11_39 rfl (by decide +kernel) (OB.at (ci := 9) (show shp 1 = (19, 0) by decide +kernel) (by decide)) ?_
          refine AW.topR (show RC 1 5 = 35 by decide +kernel) ?_
          refine gfX11_148 rfl (by decide +kernel) (OB.at (ci := 3) (show shp 35 = (13, 0) by decide +kernel) (by decide)) ?_
          exact aw_iret (by decide +kernel) rfl hG
        · exact hG
      · have hG := hG.2 hc
        refine aw_aload_n (k' := 0) (by decide +kernel) rfl ?_
        refine aw_aload_n (k' := 0) (by decide +kernel) rfl ?_
        refine gfX11_19 rfl (by decide +kernel) (OB.at (ci := 9) (show shp 1 = (19, 0) by decide +kernel) (by decide)) ?_
        refine AW.topR (show RC 1 1 = 4 by decide +kernel) ?_
        refine gfX11_123 rfl (by decide +kernel) (OB.at (ci := 8) (show shp 4 = (18, 0) by decide +kernel) (by decide)) ?_
        refine pfX11_100 rfl (by decide +kernel) (OB.at (ci := 9) (show shp 1 = (19, 0) by decide +kernel) (by decide)) ?_
        show AW Γ l mX11_law (d + 1) b 29 [vR 1] [] (stt (upd2 g2 1 17 (g2 4 5))) K
        exact thr130 (ix := 144) (i := 2) rfl (by decide) (by decide +kernel) (by decide +kernel) (by decide +kernel) (by decide +kernel) (by decide +kernel) (by decide +kernel) rfl (by omega) rfl (by simp [oneSlot]) (Nat.le_of_ble_eq_true rfl) hG
    · exact hG
  · exact hG

set_option maxHeartbeats 1000000 in
theorem wpX11_fault {Γ : Cfg} {l : Launch} {d b : Nat} {g : GG} {K : Ou → HP → Prop}  (hF : K (.inl (vI (g 1 17))) (stt g)) : Ct Γ l d b yX11_fault mX11_fault [vR 1] (stt g) K := by
  refine Ct.enter (L := [vR 1]) rfl rfl rfl (by decide +kernel) (by simp [oneSlot]) (Nat.le_of_ble_eq_true rfl) rfl ?_
  refine aw_aload_n (k' := 0) (by decide +kernel) rfl ?_
  refine gfX11_100 rfl (by decide +kernel) (OB.at (ci := 9) (show shp 1 = (19, 0) by decide +kernel) (by decide)) ?_
  exact aw_iret (by decide +kernel) rfl hF

set_option maxHeartbeats 1000000 in
theorem wpX11_scanTape {Γ : Cfg} {l : Launch} {d b : Nat} {g : GG} {K : Ou → HP → Prop}  (hF : Ct Γ l d 0 yX9_takeUp mX9_takeUp [vR 2] (stt g) (bI (fun v1 g1 => Ct Γ l d 0 yX10_scan mX10_scan [vR 4, vR 3, vI v1] (stt g1) (bV (fun g2 => K (.inl vU) (stt (upd2 g2 1 17 (-1)))) K)) K)) : Ct Γ l (d + 1) b yX11_scanTape mX11_scanTape [vR 1] (stt g) K := by
  refine Ct.enter (L := [vR 1]) rfl rfl rfl (by decide +kernel) (by simp [oneSlot]) (Nat.le_of_ble_eq_true rfl) rfl ?_
  refine aw_aload_n (k' := 0) (by decide +kernel) rfl ?_
  refine gfX11_19 rfl (by decide +kernel) (OB.at (ci := 9) (show shp 1 = (19, 0) by decide +kernel) (by decide)) ?_
  refine AW.topR (show RC 1 1 = 4 by decide +kernel) ?_
  refine aw_aload_n (k' := 0) (by decide +kernel) rfl ?_
  refine gfX11_10 rfl (by decide +kernel) (OB.at (ci := 9) (show shp 1 = (19, 0) by decide +kernel) (by decide)) ?_
  refine AW.topR (show RC 1 0 = 2 by decide +kernel) ?_
  refine gfX11_151 rfl (by decide +kernel) (OB.at (ci := 7) (show shp 2 = (17, 0) by decide +kernel) (by decide)) ?_
  refine AW.topR (show RC 2 0 = 3 by decide +kernel) ?_
  refine aw_aload_n (k' := 0) (by decide +kernel) rfl ?_
  refine gfX11_10 rfl (by decide +kernel) (OB.at (ci := 9) (show shp 1 = (19, 0) by decide +kernel) (by decide)) ?_
  refine AW.topR (show RC 1 0 = 2 by decide +kernel) ?_
  refine aw_callV (y := yX9_takeUp) (M2 := mX9_takeUp) (as := []) (S := [vR 3, vR 4]) (t := 2) (d2 := d) (b2 := 0) (b3 := b) cwX9_takeUp mlX11_154 imX9_takeUp seX9_takeUp (by decide +kernel) rfl (ci := 7) rfl (OB.at (ci := 7) (show shp 2 = (17, 0) by decide +kernel) (by decide)) (Nat.le_refl _) (Nat.le_of_eq (Nat.zero_add _)) rfl rfl (by simp [oneSlot]) (Nat.le_of_ble_eq_true rfl) (Ct.mono hF ?_)
  rintro o h' (⟨v1, g1, rfl, rfl, hG⟩ | ⟨E, g, rfl, rfl, hG⟩)
  · show AW Γ l mX11_scanTape (d + 1) b 18 [vR 1] [vI v1, vR 3, vR 4] (stt g1) K
    refine aw_callV (y := yX10_scan) (M2 := mX10_scan) (as := [vR 3, vI v1]) (S := []) (t := 4) (d2 := d) (b2 := 0) (b3 := b) cwX10_scan mlX11_158 imX10_scan seX10_scan (by decide +kernel) rfl (ci := 8) rfl (OB.at (ci := 8) (show shp 4 = (18, 0) by decide +kernel) (by decide)) (Nat.le_refl _) (Nat.le_of_eq (Nat.zero_add _)) rfl rfl (by simp [oneSlot]) (Nat.le_of_ble_eq_true rfl) (Ct.mono hG ?_)
    rintro o h' (⟨g2, rfl, rfl, hG⟩ | ⟨E, g, rfl, rfl, hG⟩)
    · show AW Γ l mX11_scanTape (d + 1) b 21 [vR 1] [] (stt g2) K
      refine aw_aload_n (k' := 0) (by decide +kernel) rfl ?_
      refine aw_iconst (n := -1) (by decide +kernel) ?_
      refine pfX11_100 rfl (by decide +kernel) (OB.at (ci := 9) (show shp 1 = (19, 0) by decide +kernel) (by decide)) ?_
      show AW Γ l mX11_scanTape (d + 1) b 26 [vR 1] [] (stt (upd2 g2 1 17 (-1))) K
      exact aw_vret (by decide +kernel) rfl hG
    · exact hG
  · exact hG

set_option maxHeartbeats 1000000 in
theorem wpX11_person {Γ : Cfg} {l : Launch} {d b : Nat} {g : GG} {K : Ou → HP → Prop} {x1 : Int} {x2 : Int} (hb : 2 ≤ b) (hF : Ct Γ l d 1 yX11_needPerson mX11_needPerson [vR 1, vI x1] (stt g) (bV (fun g1 => (wr x2 = 0 → K (.inl (vI (cel g1 10 x1))) (stt g1)) ∧ (wr x2 = 1 → K (.inl (vI (cel g1 11 x1))) (stt g1)) ∧ (wr x2 = 2 → K (.inl (vI (cel g1 12 x1))) (stt g1)) ∧ (wr x2 = 3 → K (.inl (vI (cel g1 13 x1))) (stt g1)) ∧ (wr x2 = 4 → K (.inl (vI (cel g1 14 x1))) (stt g1)) ∧ (wr x2 = 5 → Ct Γ l d 0 yX11_worstPlace mX11_worstPlace [vR 1, vI x1] (stt g1) (bI (fun v1 g2 => K (.inl (vI v1)) (stt g2)) K)) ∧ (wr x2 = 6 → Ct Γ l d 0 yX11_bestPlace mX11_bestPlace [vR 1, vI x1] (stt g1) (bI (fun v2 g3 => K (.inl (vI v2)) (stt g3)) K)) ∧ (wr x2 = 7 → Ct Γ l d 0 yX11_worstPlace mX11_worstPlace [vR 1, vI x1] (stt g1) (bI (fun v3 g4 => Ct Γ l d 0 yX7_weight mX7_weight [vR 153, vR 8, vI x1, vI v3] (stt g4) (bI (fun v4 g5 => K (.inl (vI v4)) (stt g5)) K)) K)) ∧ (wr x2 = 8 → Ct Γ l d 0 yX2_hoursNeed mX2_hoursNeed [vR 8, vI x1] (stt g1) (bI (fun v5 g6 => K (.inl (vI v5)) (stt g6)) K)) ∧ (wr x2 = 9 → Ct Γ l d 0 yX11_goingOf mX11_goingOf [vR 1, vI x1] (stt g1) (bI (fun v6 g7 => K (.inl (vI v6)) (stt g7)) K)) ∧ (wr x2 = 10 → Ct Γ l d 0 yX11_shareOf mX11_shareOf [vR 1, vI x1] (stt g1) (bI (fun v7 g8 => K (.inl (vI v7)) (stt g8)) K)) ∧ ((wr x2 < 0 ∨ 10 < wr x2) → K (.inr "java/util/NoSuchElementException") (stt g1))) K)) : Ct Γ l (d + 1) b yX11_person mX11_person [vR 1, vI x1, vI x2] (stt g) K := by
  refine Ct.enter (L := [vR 1, vI x1, vI x2]) rfl rfl rfl (by decide +kernel) (by simp [oneSlot]) (Nat.le_of_ble_eq_true rfl) rfl ?_
  refine aw_aload_n (k' := 0) (by decide +kernel) rfl ?_
  refine aw_iload_n (k' := 1) (by decide +kernel) rfl ?_
  refine aw_callV (y := yX11_needPerson) (M2 := mX11_needPerson) (as := [vI x1]) (S := []) (t := 1) (d2 := d) (b2 := 1) (b3 := b - 1) cwX11_needPerson mlX11_162 imX11_needPerson seX11_needPerson (by decide +kernel) rfl (ci := 9) rfl (OB.at (ci := 9) (show shp 1 = (19, 0) by decide +kernel) (by decide)) (Nat.le_refl _) (by omega) rfl rfl (by simp [oneSlot]) (Nat.le_of_ble_eq_true rfl) (Ct.mono hF ?_)
  rintro o h' (⟨g1, rfl, rfl, hG⟩ | ⟨E, g, rfl, rfl, hG⟩)
  · show AW Γ l mX11_person (d + 1) (b - 1) 5 [vR 1, vI x1, vI x2] [] (stt g1) K
    refine aw_iload_n (k' := 2) (by decide +kernel) rfl ?_
    refine ax_tsw (dflt := 169) (lo := 0) (hi := 10) (offs := #[58, 70, 82, 94, 106, 118, 124, 130, 148, 157, 163]) (len := 58) [64, 76, 88, 100, 112, 124, 130, 136, 154, 163, 169] 175 (by decide +kernel) (by decide) (by decide) (by decide) (by decide) (fun i hi hc => ?_) (fun hc => ?_)
    · match i, hi, hc with
      | 0, _, hc =>
        have hG := hG.1 (by simpa using hc)
        show AW Γ l mX11_person (d + 1) (b - 1) 64 [vR 1, vI x1, vI x2] [] (stt g1) K
        refine aw_aload_n (k' := 0) (by decide +kernel) rfl ?_
        refine gfX11_26 rfl (by decide +kernel) (OB.at (ci := 9) (show shp 1 = (19, 0) by decide +kernel) (by decide)) ?_
        refine AW.topR (show RC 1 2 = 8 by decide +kernel) ?_
        refine gfX11_165 rfl (by decide +kernel) (OB.at (ci := 2) (show shp 8 = (12, 0) by decide +kernel) (by decide)) ?_
        refine AW.topR (show RC 8 1 = 10 by decide +kernel) ?_
        refine aw_iload_n (k' := 1) (by decide +kernel) rfl ?_
        refine aw_callS (y := yX11_cell) (M2 := mX11_cell) (as := [vR 10, vI x1]) (S := []) (d2 := d) (b2 := 0) (b3 := b - 1) cwX11_cell mlX11_168 stX11_cell (by decide +kernel) rfl (Nat.le_refl _) (Nat.le_of_eq (Nat.zero_add _)) rfl rfl (by simp [oneSlot]) (Nat.le_of_ble_eq_true rfl) (c_cell (show (shp 10).1 = 0 by decide +kernel) ?_)
        show AW Γ l mX11_person (d + 1) (b - 1) 75 [vR 1, vI x1, vI x2] [vI (cel g1 10 x1)] (stt g1) K
        exact aw_iret (by decide +kernel) rfl hG
      | 1, _, hc =>
        have hG := hG.2.1 (by simpa using hc)
        show AW Γ l mX11_person (d + 1) (b - 1) 76 [vR 1, vI x1, vI x2] [] (stt g1) K
        refine aw_aload_n (k' := 0) (by decide +kernel) rfl ?_
        refine gfX11_26 rfl (by decide +kernel) (OB.at (ci := 9) (show shp 1 = (19, 0) by decide +kernel) (by decide)) ?_
        refine AW.topR (show RC 1 2 = 8 by decide +kernel) ?_
        refine gfX11_172 rfl (by decide +kernel) (OB.at (ci := 2) (show shp 8 = (12, 0) by decide +kernel) (by decide)) ?_
        refine AW.topR (show RC 8 2 = 11 by decide +kernel) ?_
        refine aw_iload_n (k' := 1) (by decide +kernel) rfl ?_
        refine aw_callS (y := yX11_cell) (M2 := mX11_cell) (as := [vR 11, vI x1]) (S := []) (d2 := d) (b2 := 0) (b3 := b - 1) cwX11_cell mlX11_168 stX11_cell (by decide +kernel) rfl (Nat.le_refl _) (Nat.le_of_eq (Nat.zero_add _)) rfl rfl (by simp [oneSlot]) (Nat.le_of_ble_eq_true rfl) (c_cell (show (shp 11).1 = 0 by decide +kernel) ?_)
        show AW Γ l mX11_person (d + 1) (b - 1) 87 [vR 1, vI x1, vI x2] [vI (cel g1 11 x1)] (stt g1) K
        exact aw_iret (by decide +kernel) rfl hG
      | 2, _, hc =>
        have hG := hG.2.2.1 (by simpa using hc)
        show AW Γ l mX11_person (d + 1) (b - 1) 88 [vR 1, vI x1, vI x2] [] (stt g1) K
        refine aw_aload_n (k' := 0) (by decide +kernel) rfl ?_
        refine gfX11_26 rfl (by decide +kernel) (OB.at (ci := 9) (show shp 1 = (19, 0) by decide +kernel) (by decide)) ?_
        refine AW.topR (show RC 1 2 = 8 by decide +kernel) ?_
        refine gfX11_175 rfl (by decide +kernel) (OB.at (ci := 2) (show shp 8 = (12, 0) by decide +kernel) (by decide)) ?_
        refine AW.topR (show RC 8 3 = 12 by decide +kernel) ?_
        refine aw_iload_n (k' := 1) (by decide +kernel) rfl ?_
        refine aw_callS (y := yX11_cell) (M2 := mX11_cell) (as := [vR 12, vI x1]) (S := []) (d2 := d) (b2 := 0) (b3 := b - 1) cwX11_cell mlX11_168 stX11_cell (by decide +kernel) rfl (Nat.le_refl _) (Nat.le_of_eq (Nat.zero_add _)) rfl rfl (by simp [oneSlot]) (Nat.le_of_ble_eq_true rfl) (c_cell (show (shp 12).1 = 0 by decide +kernel) ?_)
        show AW Γ l mX11_person (d + 1) (b - 1) 99 [vR 1, vI x1, vI x2] [vI (cel g1 12 x1)] (stt g1) K
        exact aw_iret (by decide +kernel) rfl hG
      | 3, _, hc =>
        have hG := hG.2.2.2.1 (by simpa using hc)
        show AW Γ l mX11_person (d + 1) (b - 1) 100 [vR 1, vI x1, vI x2] [] (stt g1) K
        refine aw_aload_n (k' := 0) (by decide +kernel) rfl ?_
        refine gfX11_26 rfl (by decide +kernel) (OB.at (ci := 9) (show shp 1 = (19, 0) by decide +kernel) (by decide)) ?_
        refine AW.topR (show RC 1 2 = 8 by decide +kernel) ?_
        refine gfX11_178 rfl (by decide +kernel) (OB.at (ci := 2) (show shp 8 = (12, 0) by decide +kernel) (by decide)) ?_
        refine AW.topR (show RC 8 4 = 13 by decide +kernel) ?_
        refine aw_iload_n (k' := 1) (by decide +kernel) rfl ?_
        refine aw_callS (y := yX11_cell) (M2 := mX11_cell) (as := [vR 13, vI x1]) (S := []) (d2 := d) (b2 := 0) (b3 := b - 1) cwX11_cell mlX11_168 stX11_cell (by decide +kernel) rfl (Nat.le_refl _) (Nat.le_of_eq (Nat.zero_add _)) rfl rfl (by simp [oneSlot]) (Nat.le_of_ble_eq_true rfl) (c_cell (show (shp 13).1 = 0 by decide +kernel) ?_)
        show AW Γ l mX11_person (d + 1) (b - 1) 111 [vR 1, vI x1, vI x2] [vI (cel g1 13 x1)] (stt g1) K
        exact aw_iret (by decide +kernel) rfl hG
      | 4, _, hc =>
        have hG := hG.2.2.2.2.1 (by simpa using hc)
        show AW Γ l mX11_person (d + 1) (b - 1) 112 [vR 1, vI x1, vI x2] [] (stt g1) K
        refine aw_aload_n (k' := 0) (by decide +kernel) rfl ?_
        refine gfX11_26 rfl (by decide +kernel) (OB.at (ci := 9) (show shp 1 = (19, 0) by decide +kernel) (by decide)) ?_
        refine AW.topR (show RC 1 2 = 8 by decide +kernel) ?_
        refine gfX11_181 rfl (by decide +kernel) (OB.at (ci := 2) (show shp 8 = (12, 0) by decide +kernel) (by decide)) ?_
        refine AW.topR (show RC 8 5 = 14 by decide +kernel) ?_
        refine aw_iload_n (k' := 1) (by decide +kernel) rfl ?_
        refine aw_callS (y := yX11_cell) (M2 := mX11_cell) (as := [vR 14, vI x1]) (S := []) (d2 := d) (b2 := 0) (b3 := b - 1) cwX11_cell mlX11_168 stX11_cell (by decide +kernel) rfl (Nat.le_refl _) (Nat.le_of_eq (Nat.zero_add _)) rfl rfl (by simp [oneSlot]) (Nat.le_of_ble_eq_true rfl) (c_cell (show (shp 14).1 = 0 by decide +kernel) ?_)
        show AW Γ l mX11_person (d + 1) (b - 1) 123 [vR 1, vI x1, vI x2] [vI (cel g1 14 x1)] (stt g1) K
        exact aw_iret (by decide +kernel) rfl hG
      | 5, _, hc =>
        have hG := hG.2.2.2.2.2.1 (by simpa using hc)
        show AW Γ l mX11_person (d + 1) (b - 1) 124 [vR 1, vI x1, vI x2] [] (stt g1) K
        refine aw_aload_n (k' := 0) (by decide +kernel) rfl ?_
        refine aw_iload_n (k' := 1) (by decide +kernel) rfl ?_
        refine aw_callV (y := yX11_worstPlace) (M2 := mX11_worstPlace) (as := [vI x1]) (S := []) (t := 1) (d2 := d) (b2 := 0) (b3 := b - 1) cwX11_worstPlace mlX11_184 imX11_worstPlace seX11_worstPlace (by decide +kernel) rfl (ci := 9) rfl (OB.at (ci := 9) (show shp 1 = (19, 0) by decide +kernel) (by decide)) (Nat.le_refl _) (Nat.le_of_eq (Nat.zero_add _)) rfl rfl (by simp [oneSlot]) (Nat.le_of_ble_eq_true rfl) (Ct.mono hG ?_)
        rintro o h' (⟨v1, g2, rfl, rfl, hG⟩ | ⟨E, g, rfl, rfl, hG⟩)
        · show AW Γ l mX11_person (d + 1) (b - 1) 129 [vR 1, vI x1, vI x2] [vI v1] (stt g2) K
          exact aw_iret (by decide +kernel) rfl hG
        · exact hG
      | 6, _, hc =>
        have hG := hG.2.2.2.2.2.2.1 (by simpa using hc)
        show AW Γ l mX11_person (d + 1) (b - 1) 130 [vR 1, vI x1, vI x2] [] (stt g1) K
        refine aw_aload_n (k' := 0) (by decide +kernel) rfl ?_
        refine aw_iload_n (k' := 1) (by decide +kernel) rfl ?_
        refine aw_callV (y := yX11_bestPlace) (M2 := mX11_bestPlace) (as := [vI x1]) (S := []) (t := 1) (d2 := d) (b2 := 0) (b3 := b - 1) cwX11_bestPlace mlX11_188 imX11_bestPlace seX11_bestPlace (by decide +kernel) rfl (ci := 9) rfl (OB.at (ci := 9) (show shp 1 = (19, 0) by decide +kernel) (by decide)) (Nat.le_refl _) (Nat.le_of_eq (Nat.zero_add _)) rfl rfl (by simp [oneSlot]) (Nat.le_of_ble_eq_true rfl) (Ct.mono hG ?_)
        rintro o h' (⟨v2, g3, rfl, rfl, hG⟩ | ⟨E, g, rfl, rfl, hG⟩)
        · show AW Γ l mX11_person (d + 1) (b - 1) 135 [vR 1, vI x1, vI x2] [vI v2] (stt g3) K
          exact aw_iret (by decide +kernel) rfl hG
        · exact hG
      | 7, _, hc =>
        have hG := hG.2.2.2.2.2.2.2.1 (by simpa using hc)
        show AW Γ l mX11_person (d + 1) (b - 1) 136 [vR 1, vI x1, vI x2] [] (stt g1) K
        refine aw_aload_n (k' := 0) (by decide +kernel) rfl ?_
        refine gfX11_58 rfl (by decide +kernel) (OB.at (ci := 9) (show shp 1 = (19, 0) by decide +kernel) (by decide)) ?_
        refine AW.topR (show RC 1 9 = 153 by decide +kernel) ?_
        refine aw_aload_n (k' := 0) (by decide +kernel) rfl ?_
        refine gfX11_26 rfl (by decide +kernel) (OB.at (ci := 9) (show shp 1 = (19, 0) by decide +kernel) (by decide)) ?_
        refine AW.topR (show RC 1 2 = 8 by decide +kernel) ?_
        refine aw_iload_n (k' := 1) (by decide +kernel) rfl ?_
        refine aw_aload_n (k' := 0) (by decide +kernel) rfl ?_
        refine aw_iload_n (k' := 1) (by decide +kernel) rfl ?_
        refine aw_callV (y := yX11_worstPlace) (M2 := mX11_worstPlace) (as := [vI x1]) (S := [vI x1, vR 8, vR 153]) (t := 1) (d2 := d) (b2 := 0) (b3 := b - 1) cwX11_worstPlace mlX11_184 imX11_worstPlace seX11_worstPlace (by decide +kernel) rfl (ci := 9) rfl (OB.at (ci := 9) (show shp 1 = (19, 0) by decide +kernel) (by decide)) (Nat.le_refl _) (Nat.le_of_eq (Nat.zero_add _)) rfl rfl (by simp [oneSlot]) (Nat.le_of_ble_eq_true rfl) (Ct.mono hG ?_)
        rintro o h' (⟨v3, g4, rfl, rfl, hG⟩ | ⟨E, g, rfl, rfl, hG⟩)
        · show AW Γ l mX11_person (d + 1) (b - 1) 150 [vR 1, vI x1, vI x2] [vI v3, vI x1, vR 8, vR 153] (stt g4) K
          refine aw_callV (y := yX7_weight) (M2 := mX7_weight) (as := [vR 8, vI x1, vI v3]) (S := []) (t := 153) (d2 := d) (b2 := 0) (b3 := b - 1) cwX7_weight mlX11_191 imX7_weight seX7_weight (by decide +kernel) rfl (ci := 6) rfl (OB.at (ci := 6) (show shp 153 = (16, 0) by decide +kernel) (by decide)) (Nat.le_refl _) (Nat.le_of_eq (Nat.zero_add _)) rfl rfl (by simp [oneSlot]) (Nat.le_of_ble_eq_true rfl) (Ct.mono hG ?_)
          rintro o h' (⟨v4, g5, rfl, rfl, hG⟩ | ⟨E, g, rfl, rfl, hG⟩)
          · show AW Γ l mX11_person (d + 1) (b - 1) 153 [vR 1, vI x1, vI x2] [vI v4] (stt g5) K
            exact aw_iret (by decide +kernel) rfl hG
          · exact hG
        · exact hG
      | 8, _, hc =>
        have hG := hG.2.2.2.2.2.2.2.2.1 (by simpa using hc)
        show AW Γ l mX11_person (d + 1) (b - 1) 154 [vR 1, vI x1, vI x2] [] (stt g1) K
        refine aw_aload_n (k' := 0) (by decide +kernel) rfl ?_
        refine gfX11_26 rfl (by decide +kernel) (OB.at (ci := 9) (show shp 1 = (19, 0) by decide +kernel) (by decide)) ?_
        refine AW.topR (show RC 1 2 = 8 by decide +kernel) ?_
        refine aw_iload_n (k' := 1) (by decide +kernel) rfl ?_
        refine aw_callV (y := yX2_hoursNeed) (M2 := mX2_hoursNeed) (as := [vI x1]) (S := []) (t := 8) (d2 := d) (b2 := 0) (b3 := b - 1) cwX2_hoursNeed mlX11_195 imX2_hoursNeed seX2_hoursNeed (by decide +kernel) rfl (ci := 2) rfl (OB.at (ci := 2) (show shp 8 = (12, 0) by decide +kernel) (by decide)) (Nat.le_refl _) (Nat.le_of_eq (Nat.zero_add _)) rfl rfl (by simp [oneSlot]) (Nat.le_of_ble_eq_true rfl) (Ct.mono hG ?_)
        rintro o h' (⟨v5, g6, rfl, rfl, hG⟩ | ⟨E, g, rfl, rfl, hG⟩)
        · show AW Γ l mX11_person (d + 1) (b - 1) 162 [vR 1, vI x1, vI x2] [vI v5] (stt g6) K
          exact aw_iret (by decide +kernel) rfl hG
        · exact hG
      | 9, _, hc =>
        have hG := hG.2.2.2.2.2.2.2.2.2.1 (by simpa using hc)
        show AW Γ l mX11_person (d + 1) (b - 1) 163 [vR 1, vI x1, vI x2] [] (stt g1) K
        refine aw_aload_n (k' := 0) (by decide +kernel) rfl ?_
        refine aw_iload_n (k' := 1) (by decide +kernel) rfl ?_
        refine aw_callV (y := yX11_goingOf) (M2 := mX11_goingOf) (as := [vI x1]) (S := []) (t := 1) (d2 := d) (b2 := 0) (b3 := b - 1) cwX11_goingOf mlX11_198 imX11_goingOf seX11_goingOf (by decide +kernel) rfl (ci := 9) rfl (OB.at (ci := 9) (show shp 1 = (19, 0) by decide +kernel) (by decide)) (Nat.le_refl _) (Nat.le_of_eq (Nat.zero_add _)) rfl rfl (by simp [oneSlot]) (Nat.le_of_ble_eq_true rfl) (Ct.mono hG ?_)
        rintro o h' (⟨v6, g7, rfl, rfl, hG⟩ | ⟨E, g, rfl, rfl, hG⟩)
        · show AW Γ l mX11_person (d + 1) (b - 1) 168 [vR 1, vI x1, vI x2] [vI v6] (stt g7) K
          exact aw_iret (by decide +kernel) rfl hG
        · exact hG
      | 10, _, hc =>
        have hG := hG.2.2.2.2.2.2.2.2.2.2.1 (by simpa using hc)
        show AW Γ l mX11_person (d + 1) (b - 1) 169 [vR 1, vI x1, vI x2] [] (stt g1) K
        refine aw_aload_n (k' := 0) (by decide +kernel) rfl ?_
        refine aw_iload_n (k' := 1) (by decide +kernel) rfl ?_
        refine aw_callV (y := yX11_shareOf) (M2 := mX11_shareOf) (as := [vI x1]) (S := []) (t := 1) (d2 := d) (b2 := 0) (b3 := b - 1) cwX11_shareOf mlX11_201 imX11_shareOf seX11_shareOf (by decide +kernel) rfl (ci := 9) rfl (OB.at (ci := 9) (show shp 1 = (19, 0) by decide +kernel) (by decide)) (Nat.le_refl _) (Nat.le_of_eq (Nat.zero_add _)) rfl rfl (by simp [oneSlot]) (Nat.le_of_ble_eq_true rfl) (Ct.mono hG ?_)
        rintro o h' (⟨v7, g8, rfl, rfl, hG⟩ | ⟨E, g, rfl, rfl, hG⟩)
        · show AW Γ l mX11_person (d + 1) (b - 1) 174 [vR 1, vI x1, vI x2] [vI v7] (stt g8) K
          exact aw_iret (by decide +kernel) rfl hG
        · exact hG
      | i + 11, hi, _ => exact absurd hi (by simp)
    · have hG := hG.2.2.2.2.2.2.2.2.2.2.2 hc
      exact thr208 (ix := 206) (i := 4) rfl (by decide) (by decide +kernel) (by decide +kernel) (by decide +kernel) (by decide +kernel) (by decide +kernel) (by decide +kernel) rfl (by omega) rfl (by simp [oneSlot]) (Nat.le_of_ble_eq_true rfl) hG
  · exact hG

set_option maxHeartbeats 1000000 in
theorem wpX11_word {Γ : Cfg} {l : Launch} {d b : Nat} {g : GG} {K : Ou → HP → Prop} {x1 : Int} {x2 : Int} {x3 : Int} (hb : 1 ≤ b) (hF : Ct Γ l (d + 1) 1 yX11_needPerson mX11_needPerson [vR 1, vI x1] (stt g) (bV (fun g1 => (wr x2 < 0 → K (.inl (vI (-1))) (stt g1)) ∧ (¬ (wr x2 < 0) → (wr x2 < wr (cel g1 10 x1) → (wr x3 = 0 → K (.inl (vI (iDiv (cel g1 9 (x1 * 12 + x2)) 10))) (stt g1)) ∧ (¬ (wr x3 = 0) → K (.inl (vI (iRem (cel g1 9 (x1 * 12 + x2)) 10))) (stt g1))) ∧ (¬ (wr x2 < wr (cel g1 10 x1)) → K (.inl (vI (-1))) (stt g1)))) K)) : Ct Γ l (d + 2) b yX11_word mX11_word [vR 1, vI x1, vI x2, vI x3] (stt g) K := by
  refine Ct.enter (L := [vR 1, vI x1, vI x2, vI x3, vU]) rfl rfl rfl (by decide +kernel) (by simp [oneSlot]) (Nat.le_of_ble_eq_true rfl) rfl ?_
  refine aw_aload_n (k' := 0) (by decide +kernel) rfl ?_
  refine aw_iload_n (k' := 1) (by decide +kernel) rfl ?_
  refine aw_callV (y := yX11_needPerson) (M2 := mX11_needPerson) (as := [vI x1]) (S := []) (t := 1) (d2 := (d + 1)) (b2 := 1) (b3 := b - 1) cwX11_needPerson mlX11_162 imX11_needPerson seX11_needPerson (by decide +kernel) rfl (ci := 9) rfl (OB.at (ci := 9) (show shp 1 = (19, 0) by decide +kernel) (by decide)) (Nat.le_refl _) (by omega) rfl rfl (by simp [oneSlot]) (Nat.le_of_ble_eq_true rfl) (Ct.mono hF ?_)
  rintro o h' (⟨g1, rfl, rfl, hG⟩ | ⟨E, g, rfl, rfl, hG⟩)
  · show AW Γ l mX11_word (d + 2) (b - 1) 5 [vR 1, vI x1, vI x2, vI x3, vU] [] (stt g1) K
    refine aw_iload_n (k' := 2) (by decide +kernel) rfl ?_
    refine ax_if_lt (off := 18) (tgt := 24) (x' := wr x2) (by decide +kernel) (by decide) rfl (fun hc => ?_) (fun hc => ?_)
    · have hG := hG.1 hc
      refine aw_iconst (n := -1) (by decide +kernel) ?_
      exact aw_iret (by decide +kernel) rfl hG
    · have hG := hG.2 hc
      refine aw_iload_n (k' := 2) (by decide +kernel) rfl ?_
      refine aw_aload_n (k' := 0) (by decide +kernel) rfl ?_
      refine gfX11_26 rfl (by decide +kernel) (OB.at (ci := 9) (show shp 1 = (19, 0) by decide +kernel) (by decide)) ?_
      refine AW.topR (show RC 1 2 = 8 by decide +kernel) ?_
      refine gfX11_165 rfl (by decide +kernel) (OB.at (ci := 2) (show shp 8 = (12, 0) by decide +kernel) (by decide)) ?_
      refine AW.topR (show RC 8 1 = 10 by decide +kernel) ?_
      refine aw_iload_n (k' := 1) (by decide +kernel) rfl ?_
      refine aw_callS (y := yX11_cell) (M2 := mX11_cell) (as := [vR 10, vI x1]) (S := [vI x2]) (d2 := (d + 1)) (b2 := 0) (b3 := b - 1) cwX11_cell mlX11_168 stX11_cell (by decide +kernel) rfl (Nat.le_refl _) (Nat.le_of_eq (Nat.zero_add _)) rfl rfl (by simp [oneSlot]) (Nat.le_of_ble_eq_true rfl) (c_cell (show (shp 10).1 = 0 by decide +kernel) ?_)
      show AW Γ l mX11_word (d + 2) (b - 1) 21 [vR 1, vI x1, vI x2, vI x3, vU] [vI (cel g1 10 x1), vI x2] (stt g1) K
      refine ax_icmp_lt (off := 5) (tgt := 26) (x' := wr x2) (y' := wr (cel g1 10 x1)) (by decide +kernel) (by decide) rfl rfl (fun hc => ?_) (fun hc => ?_)
      · have hG := hG.1 hc
        refine aw_aload_n (k' := 0) (by decide +kernel) rfl ?_
        refine gfX11_26 rfl (by decide +kernel) (OB.at (ci := 9) (show shp 1 = (19, 0) by decide +kernel) (by decide)) ?_
        refine AW.topR (show RC 1 2 = 8 by decide +kernel) ?_
        refine aw_iload_n (k' := 1) (by decide +kernel) rfl ?_
        refine aw_iload_n (k' := 2) (by decide +kernel) rfl ?_
        refine aw_callV (y := yX2_wordAt) (M2 := mX2_wordAt) (as := [vI x1, vI x2]) (S := []) (t := 8) (d2 := (d + 1)) (b2 := 0) (b3 := b - 1) cwX2_wordAt mlX11_209 imX2_wordAt seX2_wordAt (by decide +kernel) rfl (ci := 2) rfl (OB.at (ci := 2) (show shp 8 = (12, 0) by decide +kernel) (by decide)) (Nat.le_refl _) (Nat.le_of_eq (Nat.zero_add _)) rfl rfl (by simp [oneSlot]) (Nat.le_of_ble_eq_true rfl) (c_wordAt HI8 ?_)
        show AW Γ l mX11_word (d + 2) (b - 1) 35 [vR 1, vI x1, vI x2, vI x3, vU] [vI (cel g1 9 (x1 * 12 + x2))] (stt g1) K
        refine aw_istore (i := 4) (by decide +kernel) (by decide) ?_
        show AW Γ l mX11_word (d + 2) (b - 1) 37 [vR 1, vI x1, vI x2, vI x3, vI (cel g1 9 (x1 * 12 + x2))] [] (stt g1) K
        refine aw_iload_n (k' := 3) (by decide +kernel) rfl ?_
        refine ax_if_eq (off := 11) (tgt := 49) (x' := wr x3) (by decide +kernel) (by decide) rfl (fun hc => ?_) (fun hc => ?_)
        · have hG := hG.1 hc
          refine aw_iload (i := 4) (by decide +kernel) rfl ?_
          refine aw_bipush (n := 10) (by decide +kernel) (by decide +kernel) ?_
          refine aw_idiv (by decide +kernel) (by decide +kernel) ?_
          exact aw_iret (by decide +kernel) rfl hG
        · have hG := hG.2 hc
          refine aw_iload (i := 4) (by decide +kernel) rfl ?_
          refine aw_bipush (n := 10) (by decide +kernel) (by decide +kernel) ?_
          refine aw_irem (by decide +kernel) (by decide +kernel) ?_
          refine aw_goto (off := 8) (tgt := 54) (by decide +kernel) (by decide) ?_
          exact aw_iret (by decide +kernel) rfl hG
      · have hG := hG.2 hc
        refine aw_iconst (n := -1) (by decide +kernel) ?_
        exact aw_iret (by decide +kernel) rfl hG
  · exact hG

set_option maxHeartbeats 1000000 in
theorem wpX11_reading {Γ : Cfg} {l : Launch} {d b : Nat} {g : GG} {K : Ou → HP → Prop} {x1 : Int} {x2 : Int} {x3 : Int} (hb : 3 ≤ b) (hF : Ct Γ l d 1 yX11_needPerson mX11_needPerson [vR 1, vI x1] (stt g) (bV (fun g1 => (wr x2 < 0 → K (.inr "java/lang/IllegalArgumentException") (stt g1)) ∧ (¬ (wr x2 < 0) → (wr x2 ≤ wr (cel g1 10 x1) → Ct Γ l d 1 yX11_toldOf mX11_toldOf [vR 1, vI x1, vI x2, vI x3] (stt g1) (bI (fun v1 g2 => K (.inl (vI v1)) (stt g2)) K)) ∧ (¬ (wr x2 ≤ wr (cel g1 10 x1)) → K (.inr "java/lang/IllegalArgumentException") (stt g1)))) K)) : Ct Γ l (d + 1) b yX11_reading mX11_reading [vR 1, vI x1, vI x2, vI x3] (stt g) K := by
  refine Ct.enter (L := [vR 1, vI x1, vI x2, vI x3]) rfl rfl rfl (by decide +kernel) (by simp [oneSlot]) (Nat.le_of_ble_eq_true rfl) rfl ?_
  refine aw_aload_n (k' := 0) (by decide +kernel) rfl ?_
  refine aw_iload_n (k' := 1) (by decide +kernel) rfl ?_
  refine aw_callV (y := yX11_needPerson) (M2 := mX11_needPerson) (as := [vI x1]) (S := []) (t := 1) (d2 := d) (b2 := 1) (b3 := b - 1) cwX11_needPerson mlX11_162 imX11_needPerson seX11_needPerson (by decide +kernel) rfl (ci := 9) rfl (OB.at (ci := 9) (show shp 1 = (19, 0) by decide +kernel) (by decide)) (Nat.le_refl _) (by omega) rfl rfl (by simp [oneSlot]) (Nat.le_of_ble_eq_true rfl) (Ct.mono hF ?_)
  rintro o h' (⟨g1, rfl, rfl, hG⟩ | ⟨E, g, rfl, rfl, hG⟩)
  · show AW Γ l mX11_reading (d + 1) (b - 1) 5 [vR 1, vI x1, vI x2, vI x3] [] (stt g1) K
    refine aw_iload_n (k' := 2) (by decide +kernel) rfl ?_
    refine ax_if_lt (off := 18) (tgt := 24) (x' := wr x2) (by decide +kernel) (by decide) rfl (fun hc => ?_) (fun hc => ?_)
    · have hG := hG.1 hc
      exact thr130 (ix := 213) (i := 5) rfl (by decide) (by decide +kernel) (by decide +kernel) (by decide +kernel) (by decide +kernel) (by decide +kernel) (by decide +kernel) rfl (by omega) rfl (by simp [oneSlot]) (Nat.le_of_ble_eq_true rfl) hG
    · have hG := hG.2 hc
      refine aw_iload_n (k' := 2) (by decide +kernel) rfl ?_
      refine aw_aload_n (k' := 0) (by decide +kernel) rfl ?_
      refine gfX11_26 rfl (by decide +kernel) (OB.at (ci := 9) (show shp 1 = (19, 0) by decide +kernel) (by decide)) ?_
      refine AW.topR (show RC 1 2 = 8 by decide +kernel) ?_
      refine gfX11_165 rfl (by decide +kernel) (OB.at (ci := 2) (show shp 8 = (12, 0) by decide +kernel) (by decide)) ?_
      refine AW.topR (show RC 8 1 = 10 by decide +kernel) ?_
      refine aw_iload_n (k' := 1) (by decide +kernel) rfl ?_
      refine aw_callS (y := yX11_cell) (M2 := mX11_cell) (as := [vR 10, vI x1]) (S := [vI x2]) (d2 := d) (b2 := 0) (b3 := b - 1) cwX11_cell mlX11_168 stX11_cell (by decide +kernel) rfl (Nat.le_refl _) (Nat.le_of_eq (Nat.zero_add _)) rfl rfl (by simp [oneSlot]) (Nat.le_of_ble_eq_true rfl) (c_cell (show (shp 10).1 = 0 by decide +kernel) ?_)
      show AW Γ l mX11_reading (d + 1) (b - 1) 21 [vR 1, vI x1, vI x2, vI x3] [vI (cel g1 10 x1), vI x2] (stt g1) K
      refine ax_icmp_le (off := 13) (tgt := 34) (x' := wr x2) (y' := wr (cel g1 10 x1)) (by decide +kernel) (by decide) rfl rfl (fun hc => ?_) (fun hc => ?_)
      · have hG := hG.1 hc
        refine aw_aload_n (k' := 0) (by decide +kernel) rfl ?_
        refine aw_iload_n (k' := 1) (by decide +kernel) rfl ?_
        refine aw_iload_n (k' := 2) (by decide +kernel) rfl ?_
        refine aw_iload_n (k' := 3) (by decide +kernel) rfl ?_
        refine aw_callV (y := yX11_toldOf) (M2 := mX11_toldOf) (as := [vI x1, vI x2, vI x3]) (S := []) (t := 1) (d2 := d) (b2 := 1) (b3 := b - 1 - 1) cwX11_toldOf mlX11_215 imX11_toldOf seX11_toldOf (by decide +kernel) rfl (ci := 9) rfl (OB.at (ci := 9) (show shp 1 = (19, 0) by decide +kernel) (by decide)) (Nat.le_refl _) (by omega) rfl rfl (by simp [oneSlot]) (Nat.le_of_ble_eq_true rfl) (Ct.mono hG ?_)
        rintro o h' (⟨v1, g2, rfl, rfl, hG⟩ | ⟨E, g, rfl, rfl, hG⟩)
        · show AW Γ l mX11_reading (d + 1) (b - 1 - 1) 41 [vR 1, vI x1, vI x2, vI x3] [vI v1] (stt g2) K
          exact aw_iret (by decide +kernel) rfl hG
        · exact hG
      · have hG := hG.2 hc
        exact thr130 (ix := 213) (i := 5) rfl (by decide) (by decide +kernel) (by decide +kernel) (by decide +kernel) (by decide +kernel) (by decide +kernel) (by decide +kernel) rfl (by omega) rfl (by simp [oneSlot]) (Nat.le_of_ble_eq_true rfl) hG
  · exact hG

set_option maxHeartbeats 1000000 in
theorem wpX11_hold {Γ : Cfg} {l : Launch} {d b : Nat} {g : GG} {K : Ou → HP → Prop} {x1 : Int} {x2 : Int} (hb : 2 ≤ b) (hF : Ct Γ l d 1 yX11_needPerson mX11_needPerson [vR 1, vI x1] (stt g) (bV (fun g1 => Ct Γ l d 0 yX2_heldCount mX2_heldCount [vR 8, vI x1] (stt g1) (bI (fun v1 g2 => Ct Γ l d 1 yX11_toldOf mX11_toldOf [vR 1, vI x1, vI v1, vI x2] (stt g2) (bI (fun v2 g3 => K (.inl (vI v2)) (stt g3)) K)) K)) K)) : Ct Γ l (d + 1) b yX11_hold mX11_hold [vR 1, vI x1, vI x2] (stt g) K := by
  refine Ct.enter (L := [vR 1, vI x1, vI x2]) rfl rfl rfl (by decide +kernel) (by simp [oneSlot]) (Nat.le_of_ble_eq_true rfl) rfl ?_
  refine aw_aload_n (k' := 0) (by decide +kernel) rfl ?_
  refine aw_iload_n (k' := 1) (by decide +kernel) rfl ?_
  refine aw_callV (y := yX11_needPerson) (M2 := mX11_needPerson) (as := [vI x1]) (S := []) (t := 1) (d2 := d) (b2 := 1) (b3 := b - 1) cwX11_needPerson mlX11_162 imX11_needPerson seX11_needPerson (by decide +kernel) rfl (ci := 9) rfl (OB.at (ci := 9) (show shp 1 = (19, 0) by decide +kernel) (by decide)) (Nat.le_refl _) (by omega) rfl rfl (by simp [oneSlot]) (Nat.le_of_ble_eq_true rfl) (Ct.mono hF ?_)
  rintro o h' (⟨g1, rfl, rfl, hG⟩ | ⟨E, g, rfl, rfl, hG⟩)
  · show AW Γ l mX11_hold (d + 1) (b - 1) 5 [vR 1, vI x1, vI x2] [] (stt g1) K
    refine aw_aload_n (k' := 0) (by decide +kernel) rfl ?_
    refine aw_iload_n (k' := 1) (by decide +kernel) rfl ?_
    refine aw_aload_n (k' := 0) (by decide +kernel) rfl ?_
    refine gfX11_26 rfl (by decide +kernel) (OB.at (ci := 9) (show shp 1 = (19, 0) by decide +kernel) (by decide)) ?_
    refine AW.topR (show RC 1 2 = 8 by decide +kernel) ?_
    refine aw_iload_n (k' := 1) (by decide +kernel) rfl ?_
    refine aw_callV (y := yX2_heldCount) (M2 := mX2_heldCount) (as := [vI x1]) (S := [vI x1, vR 1]) (t := 8) (d2 := d) (b2 := 0) (b3 := b - 1) cwX2_heldCount mlX11_219 imX2_heldCount seX2_heldCount (by decide +kernel) rfl (ci := 2) rfl (OB.at (ci := 2) (show shp 8 = (12, 0) by decide +kernel) (by decide)) (Nat.le_refl _) (Nat.le_of_eq (Nat.zero_add _)) rfl rfl (by simp [oneSlot]) (Nat.le_of_ble_eq_true rfl) (Ct.mono hG ?_)
    rintro o h' (⟨v1, g2, rfl, rfl, hG⟩ | ⟨E, g, rfl, rfl, hG⟩)
    · show AW Γ l mX11_hold (d + 1) (b - 1) 15 [vR 1, vI x1, vI x2] [vI v1, vI x1, vR 1] (stt g2) K
      refine aw_iload_n (k' := 2) (by decide +kernel) rfl ?_
      refine aw_callV (y := yX11_toldOf) (M2 := mX11_toldOf) (as := [vI x1, vI v1, vI x2]) (S := []) (t := 1) (d2 := d) (b2 := 1) (b3 := b - 1 - 1) cwX11_toldOf mlX11_215 imX11_toldOf seX11_toldOf (by decide +kernel) rfl (ci := 9) rfl (OB.at (ci := 9) (show shp 1 = (19, 0) by decide +kernel) (by decide)) (Nat.le_refl _) (by omega) rfl rfl (by simp [oneSlot]) (Nat.le_of_ble_eq_true rfl) (Ct.mono hG ?_)
      rintro o h' (⟨v2, g3, rfl, rfl, hG⟩ | ⟨E, g, rfl, rfl, hG⟩)
      · show AW Γ l mX11_hold (d + 1) (b - 1 - 1) 19 [vR 1, vI x1, vI x2] [vI v2] (stt g3) K
        exact aw_iret (by decide +kernel) rfl hG
      · exact hG
    · exact hG
  · exact hG

set_option maxHeartbeats 1000000 in
theorem wpX11_mode {Γ : Cfg} {l : Launch} {d b : Nat} {g : GG} {K : Ou → HP → Prop} {x1 : Int} (hb : 1 ≤ b) (hF : Ct Γ l d 1 yX11_needDistance mX11_needDistance [vI x1] (stt g) (bV (fun g1 => K (.inl (vI (cel g1 15 x1))) (stt g1)) K)) : Ct Γ l (d + 1) b yX11_mode mX11_mode [vR 1, vI x1] (stt g) K := by
  refine Ct.enter (L := [vR 1, vI x1]) rfl rfl rfl (by decide +kernel) (by simp [oneSlot]) (Nat.le_of_ble_eq_true rfl) rfl ?_
  refine aw_iload_n (k' := 1) (by decide +kernel) rfl ?_
  refine aw_callS (y := yX11_needDistance) (M2 := mX11_needDistance) (as := [vI x1]) (S := []) (d2 := d) (b2 := 1) (b3 := b - 1) cwX11_needDistance mlX11_222 stX11_needDistance (by decide +kernel) rfl (Nat.le_refl _) (by omega) rfl rfl (by simp [oneSlot]) (Nat.le_of_ble_eq_true rfl) (Ct.mono hF ?_)
  rintro o h' (⟨g1, rfl, rfl, hG⟩ | ⟨E, g, rfl, rfl, hG⟩)
  · show AW Γ l mX11_mode (d + 1) (b - 1) 4 [vR 1, vI x1] [] (stt g1) K
    refine aw_aload_n (k' := 0) (by decide +kernel) rfl ?_
    refine gfX11_26 rfl (by decide +kernel) (OB.at (ci := 9) (show shp 1 = (19, 0) by decide +kernel) (by decide)) ?_
    refine AW.topR (show RC 1 2 = 8 by decide +kernel) ?_
    refine gfX11_225 rfl (by decide +kernel) (OB.at (ci := 2) (show shp 8 = (12, 0) by decide +kernel) (by decide)) ?_
    refine AW.topR (show RC 8 6 = 15 by decide +kernel) ?_
    refine aw_iload_n (k' := 1) (by decide +kernel) rfl ?_
    refine aw_callS (y := yX11_cell) (M2 := mX11_cell) (as := [vR 15, vI x1]) (S := []) (d2 := d) (b2 := 0) (b3 := b - 1) cwX11_cell mlX11_168 stX11_cell (by decide +kernel) rfl (Nat.le_refl _) (Nat.le_of_eq (Nat.zero_add _)) rfl rfl (by simp [oneSlot]) (Nat.le_of_ble_eq_true rfl) (c_cell (show (shp 15).1 = 0 by decide +kernel) ?_)
    show AW Γ l mX11_mode (d + 1) (b - 1) 15 [vR 1, vI x1] [vI (cel g1 15 x1)] (stt g1) K
    exact aw_iret (by decide +kernel) rfl hG
  · exact hG

set_option maxHeartbeats 1000000 in
theorem wpX11_needPerson {Γ : Cfg} {l : Launch} {d b : Nat} {g : GG} {K : Ou → HP → Prop} {x1 : Int} (hb : 1 ≤ b) (hF : (0 ≤ wr x1 ∧ wr x1 < wr (g 8 8) → K (.inl vU) (stt g)) ∧ (¬ (0 ≤ wr x1 ∧ wr x1 < wr (g 8 8)) → K (.inr "java/lang/IndexOutOfBoundsException") (stt g))) : Ct Γ l (d + 1) b yX11_needPerson mX11_needPerson [vR 1, vI x1] (stt g) K := by
  refine Ct.enter (L := [vR 1, vI x1]) rfl rfl rfl (by decide +kernel) (by simp [oneSlot]) (Nat.le_of_ble_eq_true rfl) rfl ?_
  refine aw_aload_n (k' := 0) (by decide +kernel) rfl ?_
  refine gfX11_26 rfl (by decide +kernel) (OB.at (ci := 9) (show shp 1 = (19, 0) by decide +kernel) (by decide)) ?_
  refine AW.topR (show RC 1 2 = 8 by decide +kernel) ?_
  refine aw_iload_n (k' := 1) (by decide +kernel) rfl ?_
  refine aw_callV (y := yX2_has) (M2 := mX2_has) (as := [vI x1]) (S := []) (t := 8) (d2 := d) (b2 := 0) (b3 := b) cwX2_has mlX11_228 imX2_has seX2_has (by decide +kernel) rfl (ci := 2) rfl (OB.at (ci := 2) (show shp 8 = (12, 0) by decide +kernel) (by decide)) (Nat.le_refl _) (Nat.le_of_eq (Nat.zero_add _)) rfl rfl (by simp [oneSlot]) (Nat.le_of_ble_eq_true rfl) (c_has2 HI8 (fun hc => ?_) (fun hc => ?_))
  · have hF := hF.1 hc
    show AW Γ l mX11_needPerson (d + 1) b 8 [vR 1, vI x1] [vI 1] (stt g) K
    refine ax_if_ne (off := 13) (tgt := 21) (x' := 1) (by decide +kernel) (by decide) (by decide +kernel) (fun hc => ?_) (fun hc => absurd (by decide) hc)
    exact aw_vret (by decide +kernel) rfl hF
  · have hF := hF.2 hc
    show AW Γ l mX11_needPerson (d + 1) b 8 [vR 1, vI x1] [vI 0] (stt g) K
    refine ax_if_ne (off := 13) (tgt := 21) (x' := 0) (by decide +kernel) (by decide) (by decide +kernel) (fun hc => absurd hc (by decide)) (fun hc => ?_)
    exact thr236 (ix := 234) (i := 3) rfl (by decide) (by decide +kernel) (by decide +kernel) (by decide +kernel) (by decide +kernel) (by decide +kernel) (by decide +kernel) rfl (by omega) rfl (by simp [oneSlot]) (Nat.le_of_ble_eq_true rfl) hF

set_option maxHeartbeats 1000000 in
theorem wpX11_needDistance {Γ : Cfg} {l : Launch} {d b : Nat} {g : GG} {K : Ou → HP → Prop} {x0 : Int} (hb : 1 ≤ b) (hF : (wr x0 < 0 → K (.inr "java/lang/IndexOutOfBoundsException") (stt g)) ∧ (¬ (wr x0 < 0) → (wr x0 < 4 → K (.inl vU) (stt g)) ∧ (¬ (wr x0 < 4) → K (.inr "java/lang/IndexOutOfBoundsException") (stt g)))) : Ct Γ l d b yX11_needDistance mX11_needDistance [vI x0] (stt g) K := by
  refine Ct.enter (L := [vI x0]) rfl rfl rfl (by decide +kernel) (by simp [oneSlot]) (Nat.le_of_ble_eq_true rfl) rfl ?_
  refine aw_iload_n (k' := 0) (by decide +kernel) rfl ?_
  refine ax_if_lt (off := 8) (tgt := 9) (x' := wr x0) (by decide +kernel) (by decide) rfl (fun hc => ?_) (fun hc => ?_)
  · have hF := hF.1 hc
    exact thr236 (ix := 237) (i := 7) rfl (by decide) (by decide +kernel) (by decide +kernel) (by decide +kernel) (by decide +kernel) (by decide +kernel) (by decide +kernel) rfl (by omega) rfl (by simp [oneSlot]) (Nat.le_of_ble_eq_true rfl) hF
  · have hF := hF.2 hc
    refine aw_iload_n (k' := 0) (by decide +kernel) rfl ?_
    refine aw_iconst (n := 4) (by decide +kernel) ?_
    refine ax_icmp_lt (off := 13) (tgt := 19) (x' := wr x0) (y' := 4) (by decide +kernel) (by decide) rfl (by decide +kernel) (fun hc => ?_) (fun hc => ?_)
    · have hF := hF.1 hc
      exact aw_vret (by decide +kernel) rfl hF
    · have hF := hF.2 hc
      exact thr236 (ix := 237) (i := 7) rfl (by decide) (by decide +kernel) (by decide +kernel) (by decide +kernel) (by decide +kernel) (by decide +kernel) (by decide +kernel) rfl (by omega) rfl (by simp [oneSlot]) (Nat.le_of_ble_eq_true rfl) hF

set_option maxHeartbeats 1000000 in
theorem wpX11_needNumber {Γ : Cfg} {l : Launch} {d b : Nat} {g : GG} {K : Ou → HP → Prop} {x0 : Int} {x1 : Int} {x2 : Int} (hb : 1 ≤ b) (hF : (wr x0 < wr x1 → K (.inr "java/lang/IllegalArgumentException") (stt g)) ∧ (¬ (wr x0 < wr x1) → (wr x0 ≤ wr x2 → K (.inl vU) (stt g)) ∧ (¬ (wr x0 ≤ wr x2) → K (.inr "java/lang/IllegalArgumentException") (stt g)))) : Ct Γ l d b yX11_needNumber mX11_needNumber [vI x0, vI x1, vI x2] (stt g) K := by
  refine Ct.enter (L := [vI x0, vI x1, vI x2]) rfl rfl rfl (by decide +kernel) (by simp [oneSlot]) (Nat.le_of_ble_eq_true rfl) rfl ?_
  refine aw_iload_n (k' := 0) (by decide +kernel) rfl ?_
  refine aw_iload_n (k' := 1) (by decide +kernel) rfl ?_
  refine ax_icmp_lt (off := 8) (tgt := 10) (x' := wr x0) (y' := wr x1) (by decide +kernel) (by decide) rfl rfl (fun hc => ?_) (fun hc => ?_)
  · have hF := hF.1 hc
    exact thr130 (ix := 239) (i := 8) rfl (by decide) (by decide +kernel) (by decide +kernel) (by decide +kernel) (by decide +kernel) (by decide +kernel) (by decide +kernel) rfl (by omega) rfl (by simp [oneSlot]) (Nat.le_of_ble_eq_true rfl) hF
  · have hF := hF.2 hc
    refine aw_iload_n (k' := 0) (by decide +kernel) rfl ?_
    refine aw_iload_n (k' := 2) (by decide +kernel) rfl ?_
    refine ax_icmp_le (off := 13) (tgt := 20) (x' := wr x0) (y' := wr x2) (by decide +kernel) (by decide) rfl rfl (fun hc => ?_) (fun hc => ?_)
    · have hF := hF.1 hc
      exact aw_vret (by decide +kernel) rfl hF
    · have hF := hF.2 hc
      exact thr130 (ix := 239) (i := 8) rfl (by decide) (by decide +kernel) (by decide +kernel) (by decide +kernel) (by decide +kernel) (by decide +kernel) (by decide +kernel) rfl (by omega) rfl (by simp [oneSlot]) (Nat.le_of_ble_eq_true rfl) hF

set_option maxHeartbeats 1000000 in
theorem wpX11_needState {Γ : Cfg} {l : Launch} {d b : Nat} {g : GG} {K : Ou → HP → Prop} {x1 : Int} {x2 : Int} (hb : 1 ≤ b) (hF : (wr (cel g 13 x1) = wr x2 → K (.inl vU) (stt g)) ∧ (¬ (wr (cel g 13 x1) = wr x2) → K (.inr "java/lang/IllegalStateException") (stt g))) : Ct Γ l (d + 1) b yX11_needState mX11_needState [vR 1, vI x1, vI x2] (stt g) K := by
  refine Ct.enter (L := [vR 1, vI x1, vI x2]) rfl rfl rfl (by decide +kernel) (by simp [oneSlot]) (Nat.le_of_ble_eq_true rfl) rfl ?_
  refine aw_aload_n (k' := 0) (by decide +kernel) rfl ?_
  refine gfX11_26 rfl (by decide +kernel) (OB.at (ci := 9) (show shp 1 = (19, 0) by decide +kernel) (by decide)) ?_
  refine AW.topR (show RC 1 2 = 8 by decide +kernel) ?_
  refine gfX11_178 rfl (by decide +kernel) (OB.at (ci := 2) (show shp 8 = (12, 0) by decide +kernel) (by decide)) ?_
  refine AW.topR (show RC 8 4 = 13 by decide +kernel) ?_
  refine aw_iload_n (k' := 1) (by decide +kernel) rfl ?_
  refine aw_callS (y := yX11_cell) (M2 := mX11_cell) (as := [vR 13, vI x1]) (S := []) (d2 := d) (b2 := 0) (b3 := b) cwX11_cell mlX11_168 stX11_cell (by decide +kernel) rfl (Nat.le_refl _) (Nat.le_of_eq (Nat.zero_add _)) rfl rfl (by simp [oneSlot]) (Nat.le_of_ble_eq_true rfl) (c_cell (show (shp 13).1 = 0 by decide +kernel) ?_)
  show AW Γ l mX11_needState (d + 1) b 11 [vR 1, vI x1, vI x2] [vI (cel g 13 x1)] (stt g) K
  refine aw_iload_n (k' := 2) (by decide +kernel) rfl ?_
  refine ax_icmp_eq (off := 13) (tgt := 25) (x' := wr (cel g 13 x1)) (y' := wr x2) (by decide +kernel) (by decide) rfl rfl (fun hc => ?_) (fun hc => ?_)
  · have hF := hF.1 hc
    exact aw_vret (by decide +kernel) rfl hF
  · have hF := hF.2 hc
    exact thr245 (ix := 243) (i := 9) rfl (by decide) (by decide +kernel) (by decide +kernel) (by decide +kernel) (by decide +kernel) (by decide +kernel) (by decide +kernel) rfl (by omega) rfl (by simp [oneSlot]) (Nat.le_of_ble_eq_true rfl) hF

set_option maxHeartbeats 1000000 in
theorem wpX11_needTwo {Γ : Cfg} {l : Launch} {d b : Nat} {g : GG} {K : Ou → HP → Prop} {x0 : Int} {x1 : Int} (hb : 1 ≤ b) (hF : (¬ wr x0 = wr x1 → K (.inl vU) (stt g)) ∧ (¬ (¬ wr x0 = wr x1) → K (.inr "java/lang/IllegalArgumentException") (stt g))) : Ct Γ l d b yX11_needTwo mX11_needTwo [vI x0, vI x1] (stt g) K := by
  refine Ct.enter (L := [vI x0, vI x1]) rfl rfl rfl (by decide +kernel) (by simp [oneSlot]) (Nat.le_of_ble_eq_true rfl) rfl ?_
  refine aw_iload_n (k' := 0) (by decide +kernel) rfl ?_
  refine aw_iload_n (k' := 1) (by decide +kernel) rfl ?_
  refine ax_icmp_ne (off := 13) (tgt := 15) (x' := wr x0) (y' := wr x1) (by decide +kernel) (by decide) rfl rfl (fun hc => ?_) (fun hc => ?_)
  · have hF := hF.1 hc
    exact aw_vret (by decide +kernel) rfl hF
  · have hF := hF.2 hc
    exact thr130 (ix := 246) (i := 10) rfl (by decide) (by decide +kernel) (by decide +kernel) (by decide +kernel) (by decide +kernel) (by decide +kernel) (by decide +kernel) rfl (by omega) rfl (by simp [oneSlot]) (Nat.le_of_ble_eq_true rfl) hF

set_option maxHeartbeats 1000000 in
theorem wpX11_toldOf {Γ : Cfg} {l : Launch} {d b : Nat} {g : GG} {K : Ou → HP → Prop} {x1 : Int} {x2 : Int} {x3 : Int} (hb : 1 ≤ b) (hF : (wr x3 < 0 → K (.inr "java/util/NoSuchElementException") (stt g)) ∧ (¬ (wr x3 < 0) → (wr x3 < 8 → Ct Γ l d 0 yX7_weight mX7_weight [vR 153, vR 8, vI x1, vI x2] (stt g) (bI (fun v1 g1 => K (.inl (vI (cel g1 156 x3))) (stt g1)) K)) ∧ (¬ (wr x3 < 8) → K (.inr "java/util/NoSuchElementException") (stt g)))) : Ct Γ l (d + 1) b yX11_toldOf mX11_toldOf [vR 1, vI x1, vI x2, vI x3] (stt g) K := by
  refine Ct.enter (L := [vR 1, vI x1, vI x2, vI x3]) rfl rfl rfl (by decide +kernel) (by simp [oneSlot]) (Nat.le_of_ble_eq_true rfl) rfl ?_
  refine aw_iload_n (k' := 3) (by decide +kernel) rfl ?_
  refine ax_if_lt (off := 9) (tgt := 10) (x' := wr x3) (by decide +kernel) (by decide) rfl (fun hc => ?_) (fun hc => ?_)
  · have hF := hF.1 hc
    exact thr208 (ix := 248) (i := 6) rfl (by decide) (by decide +kernel) (by decide +kernel) (by decide +kernel) (by decide +kernel) (by decide +kernel) (by decide +kernel) rfl (by omega) rfl (by simp [oneSlot]) (Nat.le_of_ble_eq_true rfl) hF
  · have hF := hF.2 hc
    refine aw_iload_n (k' := 3) (by decide +kernel) rfl ?_
    refine aw_bipush (n := 8) (by decide +kernel) (by decide +kernel) ?_
    refine ax_icmp_lt (off := 13) (tgt := 20) (x' := wr x3) (y' := 8) (by decide +kernel) (by decide) rfl (by decide +kernel) (fun hc => ?_) (fun hc => ?_)
    · have hF := hF.1 hc
      refine aw_aload_n (k' := 0) (by decide +kernel) rfl ?_
      refine gfX11_58 rfl (by decide +kernel) (OB.at (ci := 9) (show shp 1 = (19, 0) by decide +kernel) (by decide)) ?_
      refine AW.topR (show RC 1 9 = 153 by decide +kernel) ?_
      refine aw_aload_n (k' := 0) (by decide +kernel) rfl ?_
      refine gfX11_26 rfl (by decide +kernel) (OB.at (ci := 9) (show shp 1 = (19, 0) by decide +kernel) (by decide)) ?_
      refine AW.topR (show RC 1 2 = 8 by decide +kernel) ?_
      refine aw_iload_n (k' := 1) (by decide +kernel) rfl ?_
      refine aw_iload_n (k' := 2) (by decide +kernel) rfl ?_
      refine aw_callV (y := yX7_weight) (M2 := mX7_weight) (as := [vR 8, vI x1, vI x2]) (S := []) (t := 153) (d2 := d) (b2 := 0) (b3 := b) cwX7_weight mlX11_191 imX7_weight seX7_weight (by decide +kernel) rfl (ci := 6) rfl (OB.at (ci := 6) (show shp 153 = (16, 0) by decide +kernel) (by decide)) (Nat.le_refl _) (Nat.le_of_eq (Nat.zero_add _)) rfl rfl (by simp [oneSlot]) (Nat.le_of_ble_eq_true rfl) (Ct.mono hF ?_)
      rintro o h' (⟨v1, g1, rfl, rfl, hG⟩ | ⟨E, g, rfl, rfl, hG⟩)
      · show AW Γ l mX11_toldOf (d + 1) b 33 [vR 1, vI x1, vI x2, vI x3] [vI v1] (stt g1) K
        refine aw_pop (by decide +kernel) trivial ?_
        refine aw_aload_n (k' := 0) (by decide +kernel) rfl ?_
        refine gfX11_58 rfl (by decide +kernel) (OB.at (ci := 9) (show shp 1 = (19, 0) by decide +kernel) (by decide)) ?_
        refine AW.topR (show RC 1 9 = 153 by decide +kernel) ?_
        refine gfX11_250 rfl (by decide +kernel) (OB.at (ci := 6) (show shp 153 = (16, 0) by decide +kernel) (by decide)) ?_
        refine AW.topR (show RC 153 3 = 156 by decide +kernel) ?_
        refine aw_iload_n (k' := 3) (by decide +kernel) rfl ?_
        refine aw_callS (y := yX11_cell) (M2 := mX11_cell) (as := [vR 156, vI x3]) (S := []) (d2 := d) (b2 := 0) (b3 := b) cwX11_cell mlX11_168 stX11_cell (by decide +kernel) rfl (Nat.le_refl _) (Nat.le_of_eq (Nat.zero_add _)) rfl rfl (by simp [oneSlot]) (Nat.le_of_ble_eq_true rfl) (c_cell (show (shp 156).1 = 0 by decide +kernel) ?_)
        show AW Γ l mX11_toldOf (d + 1) b 45 [vR 1, vI x1, vI x2, vI x3] [vI (cel g1 156 x3)] (stt g1) K
        exact aw_iret (by decide +kernel) rfl hG
      · exact hG
    · have hF := hF.2 hc
      exact thr208 (ix := 248) (i := 6) rfl (by decide) (by decide +kernel) (by decide +kernel) (by decide +kernel) (by decide +kernel) (by decide +kernel) (by decide +kernel) rfl (by omega) rfl (by simp [oneSlot]) (Nat.le_of_ble_eq_true rfl) hF

set_option maxHeartbeats 1000000 in
theorem wpX11_worstPlace {Γ : Cfg} {l : Launch} {d b : Nat} {g : GG} {K : Ou → HP → Prop} {x1 : Int} (hF : Ct Γ l d 0 yX7_weight mX7_weight [vR 153, vR 8, vI x1, vI 1] (stt g) (bI (fun v1 g1 => AW Γ l mX11_worstPlace (d + 1) b 19 [vR 1, vI x1, vI 1, vI v1, vI 2, vU] [] (stt g1) K) K)) : Ct Γ l (d + 1) b yX11_worstPlace mX11_worstPlace [vR 1, vI x1] (stt g) K := by
  refine Ct.enter (L := [vR 1, vI x1, vU, vU, vU, vU]) rfl rfl rfl (by decide +kernel) (by simp [oneSlot]) (Nat.le_of_ble_eq_true rfl) rfl ?_
  refine aw_iconst (n := 1) (by decide +kernel) ?_
  refine aw_istore_n (k' := 2) (by decide +kernel) (by decide) ?_
  show AW Γ l mX11_worstPlace (d + 1) b 2 [vR 1, vI x1, vI 1, vU, vU, vU] [] (stt g) K
  refine aw_aload_n (k' := 0) (by decide +kernel) rfl ?_
  refine gfX11_58 rfl (by decide +kernel) (OB.at (ci := 9) (show shp 1 = (19, 0) by decide +kernel) (by decide)) ?_
  refine AW.topR (show RC 1 9 = 153 by decide +kernel) ?_
  refine aw_aload_n (k' := 0) (by decide +kernel) rfl ?_
  refine gfX11_26 rfl (by decide +kernel) (OB.at (ci := 9) (show shp 1 = (19, 0) by decide +kernel) (by decide)) ?_
  refine AW.topR (show RC 1 2 = 8 by decide +kernel) ?_
  refine aw_iload_n (k' := 1) (by decide +kernel) rfl ?_
  refine aw_iconst (n := 1) (by decide +kernel) ?_
  refine aw_callV (y := yX7_weight) (M2 := mX7_weight) (as := [vR 8, vI x1, vI 1]) (S := []) (t := 153) (d2 := d) (b2 := 0) (b3 := b) cwX7_weight mlX11_191 imX7_weight seX7_weight (by decide +kernel) rfl (ci := 6) rfl (OB.at (ci := 6) (show shp 153 = (16, 0) by decide +kernel) (by decide)) (Nat.le_refl _) (Nat.le_of_eq (Nat.zero_add _)) rfl rfl (by simp [oneSlot]) (Nat.le_of_ble_eq_true rfl) (Ct.mono hF ?_)
  rintro o h' (⟨v1, g1, rfl, rfl, hG⟩ | ⟨E, g, rfl, rfl, hG⟩)
  · show AW Γ l mX11_worstPlace (d + 1) b 15 [vR 1, vI x1, vI 1, vU, vU, vU] [vI v1] (stt g1) K
    refine aw_istore_n (k' := 3) (by decide +kernel) (by decide) ?_
    show AW Γ l mX11_worstPlace (d + 1) b 16 [vR 1, vI x1, vI 1, vI v1, vU, vU] [] (stt g1) K
    refine aw_iconst (n := 2) (by decide +kernel) ?_
    refine aw_istore (i := 4) (by decide +kernel) (by decide) ?_
    show AW Γ l mX11_worstPlace (d + 1) b 19 [vR 1, vI x1, vI 1, vI v1, vI 2, vU] [] (stt g1) K
    exact hG
  · exact hG
set_option maxHeartbeats 1000000 in
theorem wpX11_worstPlace_19 {Γ : Cfg} {l : Launch} {d b : Nat} {g : GG} {K : Ou → HP → Prop} {x1 : Int} {y2 : Int} {y3 : Int} {y4 : Int} (hF : (wr (cel g 10 x1) < wr y4 → K (.inl (vI y2)) (stt g)) ∧ (¬ (wr (cel g 10 x1) < wr y4) → Ct Γ l d 0 yX7_weight mX7_weight [vR 153, vR 8, vI x1, vI y4] (stt g) (bI (fun v1 g1 => (wr y3 ≤ wr v1 → AW Γ l mX11_worstPlace (d + 1) b 19 [vR 1, vI x1, vI y2, vI y3, vI (y4 + 1), vI v1] [] (stt g1) K) ∧ (¬ (wr y3 ≤ wr v1) → AW Γ l mX11_worstPlace (d + 1) b 19 [vR 1, vI x1, vI y4, vI v1, vI (y4 + 1), vI v1] [] (stt g1) K)) K))) : AW Γ l mX11_worstPlace (d + 1) b 19 [vR 1, vI x1, vI y2, vI y3, vI y4, vU] [] (stt g) K := by
  refine aw_iload (i := 4) (by decide +kernel) rfl ?_
  refine aw_aload_n (k' := 0) (by decide +kernel) rfl ?_
  refine gfX11_26 rfl (by decide +kernel) (OB.at (ci := 9) (show shp 1 = (19, 0) by decide +kernel) (by decide)) ?_
  refine AW.topR (show RC 1 2 = 8 by decide +kernel) ?_
  refine gfX11_165 rfl (by decide +kernel) (OB.at (ci := 2) (show shp 8 = (12, 0) by decide +kernel) (by decide)) ?_
  refine AW.topR (show RC 8 1 = 10 by decide +kernel) ?_
  refine aw_iload_n (k' := 1) (by decide +kernel) rfl ?_
  refine aw_callS (y := yX11_cell) (M2 := mX11_cell) (as := [vR 10, vI x1]) (S := [vI y4]) (d2 := d) (b2 := 0) (b3 := b) cwX11_cell mlX11_168 stX11_cell (by decide +kernel) rfl (Nat.le_refl _) (Nat.le_of_eq (Nat.zero_add _)) rfl rfl (by simp [oneSlot]) (Nat.le_of_ble_eq_true rfl) (c_cell (show (shp 10).1 = 0 by decide +kernel) ?_)
  show AW Γ l mX11_worstPlace (d + 1) b 32 [vR 1, vI x1, vI y2, vI y3, vI y4, vU] [vI (cel g 10 x1), vI y4] (stt g) K
  refine ax_icmp_gt (off := 37) (tgt := 69) (x' := wr y4) (y' := wr (cel g 10 x1)) (by decide +kernel) (by decide) rfl rfl (fun hc => ?_) (fun hc => ?_)
  · have hF := hF.1 hc
    refine aw_iload_n (k' := 2) (by decide +kernel) rfl ?_
    exact aw_iret (by decide +kernel) rfl hF
  · have hF := hF.2 hc
    refine aw_aload_n (k' := 0) (by decide +kernel) rfl ?_
    refine gfX11_58 rfl (by decide +kernel) (OB.at (ci := 9) (show shp 1 = (19, 0) by decide +kernel) (by decide)) ?_
    refine AW.topR (show RC 1 9 = 153 by decide +kernel) ?_
    refine aw_aload_n (k' := 0) (by decide +kernel) rfl ?_
    refine gfX11_26 rfl (by decide +kernel) (OB.at (ci := 9) (show shp 1 = (19, 0) by decide +kernel) (by decide)) ?_
    refine AW.topR (show RC 1 2 = 8 by decide +kernel) ?_
    refine aw_iload_n (k' := 1) (by decide +kernel) rfl ?_
    refine aw_iload (i := 4) (by decide +kernel) rfl ?_
    refine aw_callV (y := yX7_weight) (M2 := mX7_weight) (as := [vR 8, vI x1, vI y4]) (S := []) (t := 153) (d2 := d) (b2 := 0) (b3 := b) cwX7_weight mlX11_191 imX7_weight seX7_weight (by decide +kernel) rfl (ci := 6) rfl (OB.at (ci := 6) (show shp 153 = (16, 0) by decide +kernel) (by decide)) (Nat.le_refl _) (Nat.le_of_eq (Nat.zero_add _)) rfl rfl (by simp [oneSlot]) (Nat.le_of_ble_eq_true rfl) (Ct.mono hF ?_)
    rintro o h' (⟨v1, g1, rfl, rfl, hG⟩ | ⟨E, g, rfl, rfl, hG⟩)
    · show AW Γ l mX11_worstPlace (d + 1) b 49 [vR 1, vI x1, vI y2, vI y3, vI y4, vU] [vI v1] (stt g1) K
      refine aw_istore (i := 5) (by decide +kernel) (by decide) ?_
      show AW Γ l mX11_worstPlace (d + 1) b 51 [vR 1, vI x1, vI y2, vI y3, vI y4, vI v1] [] (stt g1) K
      refine aw_iload (i := 5) (by decide +kernel) rfl ?_
      refine aw_iload_n (k' := 3) (by decide +kernel) rfl ?_
      refine ax_icmp_ge (off := 9) (tgt := 63) (x' := wr v1) (y' := wr y3) (by decide +kernel) (by decide) rfl rfl (fun hc => ?_) (fun hc => ?_)
      · have hG := hG.1 hc
        refine aw_iinc (i := 4) (n := 1) (by decide +kernel) rfl (by decide) ?_
        show AW Γ l mX11_worstPlace (d + 1) b 66 [vR 1, vI x1, vI y2, vI y3, vI (y4 + 1), vI v1] [] (stt g1) K
        refine aw_goto (off := -47) (tgt := 19) (by decide +kernel) (by decide) ?_
        exact hG
      · have hG := hG.2 hc
        refine aw_iload (i := 5) (by decide +kernel) rfl ?_
        refine aw_istore_n (k' := 3) (by decide +kernel) (by decide) ?_
        show AW Γ l mX11_worstPlace (d + 1) b 60 [vR 1, vI x1, vI y2, vI v1, vI y4, vI v1] [] (stt g1) K
        refine aw_iload (i := 4) (by decide +kernel) rfl ?_
        refine aw_istore_n (k' := 2) (by decide +kernel) (by decide) ?_
        show AW Γ l mX11_worstPlace (d + 1) b 63 [vR 1, vI x1, vI y4, vI v1, vI y4, vI v1] [] (stt g1) K
        refine aw_iinc (i := 4) (n := 1) (by decide +kernel) rfl (by decide) ?_
        show AW Γ l mX11_worstPlace (d + 1) b 66 [vR 1, vI x1, vI y4, vI v1, vI (y4 + 1), vI v1] [] (stt g1) K
        refine aw_goto (off := -47) (tgt := 19) (by decide +kernel) (by decide) ?_
        exact hG
    · exact hG

set_option maxHeartbeats 1000000 in
theorem wpX11_bestPlace {Γ : Cfg} {l : Launch} {d b : Nat} {g : GG} {K : Ou → HP → Prop} {x1 : Int} (hF : Ct Γ l d 0 yX7_weight mX7_weight [vR 153, vR 8, vI x1, vI 1] (stt g) (bI (fun v1 g1 => AW Γ l mX11_bestPlace (d + 1) b 19 [vR 1, vI x1, vI 1, vI v1, vI 2, vU] [] (stt g1) K) K)) : Ct Γ l (d + 1) b yX11_bestPlace mX11_bestPlace [vR 1, vI x1] (stt g) K := by
  refine Ct.enter (L := [vR 1, vI x1, vU, vU, vU, vU]) rfl rfl rfl (by decide +kernel) (by simp [oneSlot]) (Nat.le_of_ble_eq_true rfl) rfl ?_
  refine aw_iconst (n := 1) (by decide +kernel) ?_
  refine aw_istore_n (k' := 2) (by decide +kernel) (by decide) ?_
  show AW Γ l mX11_bestPlace (d + 1) b 2 [vR 1, vI x1, vI 1, vU, vU, vU] [] (stt g) K
  refine aw_aload_n (k' := 0) (by decide +kernel) rfl ?_
  refine gfX11_58 rfl (by decide +kernel) (OB.at (ci := 9) (show shp 1 = (19, 0) by decide +kernel) (by decide)) ?_
  refine AW.topR (show RC 1 9 = 153 by decide +kernel) ?_
  refine aw_aload_n (k' := 0) (by decide +kernel) rfl ?_
  refine gfX11_26 rfl (by decide +kernel) (OB.at (ci := 9) (show shp 1 = (19, 0) by decide +kernel) (by decide)) ?_
  refine AW.topR (show RC 1 2 = 8 by decide +kernel) ?_
  refine aw_iload_n (k' := 1) (by decide +kernel) rfl ?_
  refine aw_iconst (n := 1) (by decide +kernel) ?_
  refine aw_callV (y := yX7_weight) (M2 := mX7_weight) (as := [vR 8, vI x1, vI 1]) (S := []) (t := 153) (d2 := d) (b2 := 0) (b3 := b) cwX7_weight mlX11_191 imX7_weight seX7_weight (by decide +kernel) rfl (ci := 6) rfl (OB.at (ci := 6) (show shp 153 = (16, 0) by decide +kernel) (by decide)) (Nat.le_refl _) (Nat.le_of_eq (Nat.zero_add _)) rfl rfl (by simp [oneSlot]) (Nat.le_of_ble_eq_true rfl) (Ct.mono hF ?_)
  rintro o h' (⟨v1, g1, rfl, rfl, hG⟩ | ⟨E, g, rfl, rfl, hG⟩)
  · show AW Γ l mX11_bestPlace (d + 1) b 15 [vR 1, vI x1, vI 1, vU, vU, vU] [vI v1] (stt g1) K
    refine aw_istore_n (k' := 3) (by decide +kernel) (by decide) ?_
    show AW Γ l mX11_bestPlace (d + 1) b 16 [vR 1, vI x1, vI 1, vI v1, vU, vU] [] (stt g1) K
    refine aw_iconst (n := 2) (by decide +kernel) ?_
    refine aw_istore (i := 4) (by decide +kernel) (by decide) ?_
    show AW Γ l mX11_bestPlace (d + 1) b 19 [vR 1, vI x1, vI 1, vI v1, vI 2, vU] [] (stt g1) K
    exact hG
  · exact hG
set_option maxHeartbeats 1000000 in
theorem wpX11_bestPlace_19 {Γ : Cfg} {l : Launch} {d b : Nat} {g : GG} {K : Ou → HP → Prop} {x1 : Int} {y2 : Int} {y3 : Int} {y4 : Int} (hF : (wr (cel g 10 x1) < wr y4 → K (.inl (vI y2)) (stt g)) ∧ (¬ (wr (cel g 10 x1) < wr y4) → Ct Γ l d 0 yX7_weight mX7_weight [vR 153, vR 8, vI x1, vI y4] (stt g) (bI (fun v1 g1 => (wr v1 ≤ wr y3 → AW Γ l mX11_bestPlace (d + 1) b 19 [vR 1, vI x1, vI y2, vI y3, vI (y4 + 1), vI v1] [] (stt g1) K) ∧ (¬ (wr v1 ≤ wr y3) → AW Γ l mX11_bestPlace (d + 1) b 19 [vR 1, vI x1, vI y4, vI v1, vI (y4 + 1), vI v1] [] (stt g1) K)) K))) : AW Γ l mX11_bestPlace (d + 1) b 19 [vR 1, vI x1, vI y2, vI y3, vI y4, vU] [] (stt g) K := by
  refine aw_iload (i := 4) (by decide +kernel) rfl ?_
  refine aw_aload_n (k' := 0) (by decide +kernel) rfl ?_
  refine gfX11_26 rfl (by decide +kernel) (OB.at (ci := 9) (show shp 1 = (19, 0) by decide +kernel) (by decide)) ?_
  refine AW.topR (show RC 1 2 = 8 by decide +kernel) ?_
  refine gfX11_165 rfl (by decide +kernel) (OB.at (ci := 2) (show shp 8 = (12, 0) by decide +kernel) (by decide)) ?_
  refine AW.topR (show RC 8 1 = 10 by decide +kernel) ?_
  refine aw_iload_n (k' := 1) (by decide +kernel) rfl ?_
  refine aw_callS (y := yX11_cell) (M2 := mX11_cell) (as := [vR 10, vI x1]) (S := [vI y4]) (d2 := d) (b2 := 0) (b3 := b) cwX11_cell mlX11_168 stX11_cell (by decide +kernel) rfl (Nat.le_refl _) (Nat.le_of_eq (Nat.zero_add _)) rfl rfl (by simp [oneSlot]) (Nat.le_of_ble_eq_true rfl) (c_cell (show (shp 10).1 = 0 by decide +kernel) ?_)
  show AW Γ l mX11_bestPlace (d + 1) b 32 [vR 1, vI x1, vI y2, vI y3, vI y4, vU] [vI (cel g 10 x1), vI y4] (stt g) K
  refine ax_icmp_gt (off := 37) (tgt := 69) (x' := wr y4) (y' := wr (cel g 10 x1)) (by decide +kernel) (by decide) rfl rfl (fun hc => ?_) (fun hc => ?_)
  · have hF := hF.1 hc
    refine aw_iload_n (k' := 2) (by decide +kernel) rfl ?_
    exact aw_iret (by decide +kernel) rfl hF
  · have hF := hF.2 hc
    refine aw_aload_n (k' := 0) (by decide +kernel) rfl ?_
    refine gfX11_58 rfl (by decide +kernel) (OB.at (ci := 9) (show shp 1 = (19, 0) by decide +kernel) (by decide)) ?_
    refine AW.topR (show RC 1 9 = 153 by decide +kernel) ?_
    refine aw_aload_n (k' := 0) (by decide +kernel) rfl ?_
    refine gfX11_26 rfl (by decide +kernel) (OB.at (ci := 9) (show shp 1 = (19, 0) by decide +kernel) (by decide)) ?_
    refine AW.topR (show RC 1 2 = 8 by decide +kernel) ?_
    refine aw_iload_n (k' := 1) (by decide +kernel) rfl ?_
    refine aw_iload (i := 4) (by decide +kernel) rfl ?_
    refine aw_callV (y := yX7_weight) (M2 := mX7_weight) (as := [vR 8, vI x1, vI y4]) (S := []) (t := 153) (d2 := d) (b2 := 0) (b3 := b) cwX7_weight mlX11_191 imX7_weight seX7_weight (by decide +kernel) rfl (ci := 6) rfl (OB.at (ci := 6) (show shp 153 = (16, 0) by decide +kernel) (by decide)) (Nat.le_refl _) (Nat.le_of_eq (Nat.zero_add _)) rfl rfl (by simp [oneSlot]) (Nat.le_of_ble_eq_true rfl) (Ct.mono hF ?_)
    rintro o h' (⟨v1, g1, rfl, rfl, hG⟩ | ⟨E, g, rfl, rfl, hG⟩)
    · show AW Γ l mX11_bestPlace (d + 1) b 49 [vR 1, vI x1, vI y2, vI y3, vI y4, vU] [vI v1] (stt g1) K
      refine aw_istore (i := 5) (by decide +kernel) (by decide) ?_
      show AW Γ l mX11_bestPlace (d + 1) b 51 [vR 1, vI x1, vI y2, vI y3, vI y4, vI v1] [] (stt g1) K
      refine aw_iload (i := 5) (by decide +kernel) rfl ?_
      refine aw_iload_n (k' := 3) (by decide +kernel) rfl ?_
      refine ax_icmp_le (off := 9) (tgt := 63) (x' := wr v1) (y' := wr y3) (by decide +kernel) (by decide) rfl rfl (fun hc => ?_) (fun hc => ?_)
      · have hG := hG.1 hc
        refine aw_iinc (i := 4) (n := 1) (by decide +kernel) rfl (by decide) ?_
        show AW Γ l mX11_bestPlace (d + 1) b 66 [vR 1, vI x1, vI y2, vI y3, vI (y4 + 1), vI v1] [] (stt g1) K
        refine aw_goto (off := -47) (tgt := 19) (by decide +kernel) (by decide) ?_
        exact hG
      · have hG := hG.2 hc
        refine aw_iload (i := 5) (by decide +kernel) rfl ?_
        refine aw_istore_n (k' := 3) (by decide +kernel) (by decide) ?_
        show AW Γ l mX11_bestPlace (d + 1) b 60 [vR 1, vI x1, vI y2, vI v1, vI y4, vI v1] [] (stt g1) K
        refine aw_iload (i := 4) (by decide +kernel) rfl ?_
        refine aw_istore_n (k' := 2) (by decide +kernel) (by decide) ?_
        show AW Γ l mX11_bestPlace (d + 1) b 63 [vR 1, vI x1, vI y4, vI v1, vI y4, vI v1] [] (stt g1) K
        refine aw_iinc (i := 4) (n := 1) (by decide +kernel) rfl (by decide) ?_
        show AW Γ l mX11_bestPlace (d + 1) b 66 [vR 1, vI x1, vI y4, vI v1, vI (y4 + 1), vI v1] [] (stt g1) K
        refine aw_goto (off := -47) (tgt := 19) (by decide +kernel) (by decide) ?_
        exact hG
    · exact hG

set_option maxHeartbeats 1000000 in
theorem wpX11_goingOf {Γ : Cfg} {l : Launch} {d b : Nat} {g : GG} {K : Ou → HP → Prop} {x1 : Int} (hF : (wr (cel g 13 x1) = 1 → AW Γ l mX11_goingOf (d + 1) b 34 [vR 1, vI x1, vI (cel g 14 x1), vI 0, vI 0] [] (stt g) K) ∧ (¬ (wr (cel g 13 x1) = 1) → K (.inl (vI 0)) (stt g))) : Ct Γ l (d + 1) b yX11_goingOf mX11_goingOf [vR 1, vI x1] (stt g) K := by
  refine Ct.enter (L := [vR 1, vI x1, vU, vU, vU]) rfl rfl rfl (by decide +kernel) (by simp [oneSlot]) (Nat.le_of_ble_eq_true rfl) rfl ?_
  refine aw_aload_n (k' := 0) (by decide +kernel) rfl ?_
  refine gfX11_26 rfl (by decide +kernel) (OB.at (ci := 9) (show shp 1 = (19, 0) by decide +kernel) (by decide)) ?_
  refine AW.topR (show RC 1 2 = 8 by decide +kernel) ?_
  refine gfX11_178 rfl (by decide +kernel) (OB.at (ci := 2) (show shp 8 = (12, 0) by decide +kernel) (by decide)) ?_
  refine AW.topR (show RC 8 4 = 13 by decide +kernel) ?_
  refine aw_iload_n (k' := 1) (by decide +kernel) rfl ?_
  refine aw_callS (y := yX11_cell) (M2 := mX11_cell) (as := [vR 13, vI x1]) (S := []) (d2 := d) (b2 := 0) (b3 := b) cwX11_cell mlX11_168 stX11_cell (by decide +kernel) rfl (Nat.le_refl _) (Nat.le_of_eq (Nat.zero_add _)) rfl rfl (by simp [oneSlot]) (Nat.le_of_ble_eq_true rfl) (c_cell (show (shp 13).1 = 0 by decide +kernel) ?_)
  show AW Γ l mX11_goingOf (d + 1) b 11 [vR 1, vI x1, vU, vU, vU] [vI (cel g 13 x1)] (stt g) K
  refine aw_iconst (n := 1) (by decide +kernel) ?_
  refine ax_icmp_eq (off := 5) (tgt := 17) (x' := wr (cel g 13 x1)) (y' := 1) (by decide +kernel) (by decide) rfl (by decide +kernel) (fun hc => ?_) (fun hc => ?_)
  · have hF := hF.1 hc
    refine aw_aload_n (k' := 0) (by decide +kernel) rfl ?_
    refine gfX11_26 rfl (by decide +kernel) (OB.at (ci := 9) (show shp 1 = (19, 0) by decide +kernel) (by decide)) ?_
    refine AW.topR (show RC 1 2 = 8 by decide +kernel) ?_
    refine gfX11_181 rfl (by decide +kernel) (OB.at (ci := 2) (show shp 8 = (12, 0) by decide +kernel) (by decide)) ?_
    refine AW.topR (show RC 8 5 = 14 by decide +kernel) ?_
    refine aw_iload_n (k' := 1) (by decide +kernel) rfl ?_
    refine aw_callS (y := yX11_cell) (M2 := mX11_cell) (as := [vR 14, vI x1]) (S := []) (d2 := d) (b2 := 0) (b3 := b) cwX11_cell mlX11_168 stX11_cell (by decide +kernel) rfl (Nat.le_refl _) (Nat.le_of_eq (Nat.zero_add _)) rfl rfl (by simp [oneSlot]) (Nat.le_of_ble_eq_true rfl) (c_cell (show (shp 14).1 = 0 by decide +kernel) ?_)
    show AW Γ l mX11_goingOf (d + 1) b 28 [vR 1, vI x1, vU, vU, vU] [vI (cel g 14 x1)] (stt g) K
    refine aw_istore_n (k' := 2) (by decide +kernel) (by decide) ?_
    show AW Γ l mX11_goingOf (d + 1) b 29 [vR 1, vI x1, vI (cel g 14 x1), vU, vU] [] (stt g) K
    refine aw_iconst (n := 0) (by decide +kernel) ?_
    refine aw_istore_n (k' := 3) (by decide +kernel) (by decide) ?_
    show AW Γ l mX11_goingOf (d + 1) b 31 [vR 1, vI x1, vI (cel g 14 x1), vI 0, vU] [] (stt g) K
    refine aw_iconst (n := 0) (by decide +kernel) ?_
    refine aw_istore (i := 4) (by decide +kernel) (by decide) ?_
    show AW Γ l mX11_goingOf (d + 1) b 34 [vR 1, vI x1, vI (cel g 14 x1), vI 0, vI 0] [] (stt g) K
    exact hF
  · have hF := hF.2 hc
    refine aw_iconst (n := 0) (by decide +kernel) ?_
    exact aw_iret (by decide +kernel) rfl hF
set_option maxHeartbeats 1000000 in
theorem wpX11_goingOf_34 {Γ : Cfg} {l : Launch} {d b : Nat} {g : GG} {K : Ou → HP → Prop} {x1 : Int} {y2 : Int} {y3 : Int} {y4 : Int} (hF : (wr (g 8 8) ≤ wr y4 → K (.inl (vI y3)) (stt g)) ∧ (¬ (wr (g 8 8) ≤ wr y4) → Ct Γ l d 0 yX2_alikeFirst mX2_alikeFirst [vR 8, vI x1, vI y4] (stt g) (bI (fun v1 g1 => (wr v1 < wr y2 → AW Γ l mX11_goingOf (d + 1) b 34 [vR 1, vI x1, vI y2, vI y3, vI (y4 + 1)] [] (stt g1) K) ∧ (¬ (wr v1 < wr y2) → AW Γ l mX11_goingOf (d + 1) b 34 [vR 1, vI x1, vI y2, vI (iOr y3 (iShl 1 y4)), vI (y4 + 1)] [] (stt g1) K)) K))) : AW Γ l mX11_goingOf (d + 1) b 34 [vR 1, vI x1, vI y2, vI y3, vI y4] [] (stt g) K := by
  refine aw_iload (i := 4) (by decide +kernel) rfl ?_
  refine aw_aload_n (k' := 0) (by decide +kernel) rfl ?_
  refine gfX11_26 rfl (by decide +kernel) (OB.at (ci := 9) (show shp 1 = (19, 0) by decide +kernel) (by decide)) ?_
  refine AW.topR (show RC 1 2 = 8 by decide +kernel) ?_
  refine gfX11_253 rfl (by decide +kernel) (OB.at (ci := 2) (show shp 8 = (12, 0) by decide +kernel) (by decide)) ?_
  refine ax_icmp_ge (off := 30) (tgt := 73) (x' := wr y4) (y' := wr (g 8 8)) (by decide +kernel) (by decide) rfl rfl (fun hc => ?_) (fun hc => ?_)
  · have hF := hF.1 hc
    refine aw_iload_n (k' := 3) (by decide +kernel) rfl ?_
    exact aw_iret (by decide +kernel) rfl hF
  · have hF := hF.2 hc
    refine aw_aload_n (k' := 0) (by decide +kernel) rfl ?_
    refine gfX11_26 rfl (by decide +kernel) (OB.at (ci := 9) (show shp 1 = (19, 0) by decide +kernel) (by decide)) ?_
    refine AW.topR (show RC 1 2 = 8 by decide +kernel) ?_
    refine aw_iload_n (k' := 1) (by decide +kernel) rfl ?_
    refine aw_iload (i := 4) (by decide +kernel) rfl ?_
    refine aw_callV (y := yX2_alikeFirst) (M2 := mX2_alikeFirst) (as := [vI x1, vI y4]) (S := []) (t := 8) (d2 := d) (b2 := 0) (b3 := b) cwX2_alikeFirst mlX11_256 imX2_alikeFirst seX2_alikeFirst (by decide +kernel) rfl (ci := 2) rfl (OB.at (ci := 2) (show shp 8 = (12, 0) by decide +kernel) (by decide)) (Nat.le_refl _) (Nat.le_of_eq (Nat.zero_add _)) rfl rfl (by simp [oneSlot]) (Nat.le_of_ble_eq_true rfl) (Ct.mono hF ?_)
    rintro o h' (⟨v1, g1, rfl, rfl, hG⟩ | ⟨E, g, rfl, rfl, hG⟩)
    · show AW Γ l mX11_goingOf (d + 1) b 56 [vR 1, vI x1, vI y2, vI y3, vI y4] [vI v1] (stt g1) K
      refine aw_iload_n (k' := 2) (by decide +kernel) rfl ?_
      refine ax_icmp_lt (off := 10) (tgt := 67) (x' := wr v1) (y' := wr y2) (by decide +kernel) (by decide) rfl rfl (fun hc => ?_) (fun hc => ?_)
      · have hG := hG.1 hc
        refine aw_iinc (i := 4) (n := 1) (by decide +kernel) rfl (by decide) ?_
        show AW Γ l mX11_goingOf (d + 1) b 70 [vR 1, vI x1, vI y2, vI y3, vI (y4 + 1)] [] (stt g1) K
        refine aw_goto (off := -36) (tgt := 34) (by decide +kernel) (by decide) ?_
        exact hG
      · have hG := hG.2 hc
        refine aw_iload_n (k' := 3) (by decide +kernel) rfl ?_
        refine aw_iconst (n := 1) (by decide +kernel) ?_
        refine aw_iload (i := 4) (by decide +kernel) rfl ?_
        refine aw_ishl (by decide +kernel) ?_
        refine aw_ior (by decide +kernel) ?_
        refine aw_istore_n (k' := 3) (by decide +kernel) (by decide) ?_
        show AW Γ l mX11_goingOf (d + 1) b 67 [vR 1, vI x1, vI y2, vI (iOr y3 (iShl 1 y4)), vI y4] [] (stt g1) K
        refine aw_iinc (i := 4) (n := 1) (by decide +kernel) rfl (by decide) ?_
        show AW Γ l mX11_goingOf (d + 1) b 70 [vR 1, vI x1, vI y2, vI (iOr y3 (iShl 1 y4)), vI (y4 + 1)] [] (stt g1) K
        refine aw_goto (off := -36) (tgt := 34) (by decide +kernel) (by decide) ?_
        exact hG
    · exact hG

set_option maxHeartbeats 1000000 in
theorem wpX11_shareOf {Γ : Cfg} {l : Launch} {d b : Nat} {g : GG} {K : Ou → HP → Prop} {x1 : Int} (hF : AW Γ l mX11_shareOf (d + 1) b 4 [vR 1, vI x1, vI 0, vI 0] [] (stt g) K) : Ct Γ l (d + 1) b yX11_shareOf mX11_shareOf [vR 1, vI x1] (stt g) K := by
  refine Ct.enter (L := [vR 1, vI x1, vU, vU]) rfl rfl rfl (by decide +kernel) (by simp [oneSlot]) (Nat.le_of_ble_eq_true rfl) rfl ?_
  refine aw_iconst (n := 0) (by decide +kernel) ?_
  refine aw_istore_n (k' := 2) (by decide +kernel) (by decide) ?_
  show AW Γ l mX11_shareOf (d + 1) b 2 [vR 1, vI x1, vI 0, vU] [] (stt g) K
  refine aw_iconst (n := 0) (by decide +kernel) ?_
  refine aw_istore_n (k' := 3) (by decide +kernel) (by decide) ?_
  show AW Γ l mX11_shareOf (d + 1) b 4 [vR 1, vI x1, vI 0, vI 0] [] (stt g) K
  exact hF
set_option maxHeartbeats 1000000 in
theorem wpX11_shareOf_4 {Γ : Cfg} {l : Launch} {d b : Nat} {g : GG} {K : Ou → HP → Prop} {x1 : Int} {y2 : Int} {y3 : Int} (hF : (wr (g 8 8) ≤ wr y3 → (¬ wr y2 = 0 → Ct Γ l d 0 yX11_heldWeight mX11_heldWeight [vR 1, vI x1] (stt g) (bI (fun v1 g1 => wr y2 ≠ 0 ∧ (K (.inl (vI (iDiv (100 * v1) y2))) (stt g1))) K)) ∧ (¬ (¬ wr y2 = 0) → K (.inl (vI 0)) (stt g))) ∧ (¬ (wr (g 8 8) ≤ wr y3) → Ct Γ l d 0 yX11_heldWeight mX11_heldWeight [vR 1, vI y3] (stt g) (bI (fun v2 g2 => AW Γ l mX11_shareOf (d + 1) b 4 [vR 1, vI x1, vI (y2 + v2), vI (y3 + 1)] [] (stt g2) K) K))) : AW Γ l mX11_shareOf (d + 1) b 4 [vR 1, vI x1, vI y2, vI y3] [] (stt g) K := by
  refine aw_iload_n (k' := 3) (by decide +kernel) rfl ?_
  refine aw_aload_n (k' := 0) (by decide +kernel) rfl ?_
  refine gfX11_26 rfl (by decide +kernel) (OB.at (ci := 9) (show shp 1 = (19, 0) by decide +kernel) (by decide)) ?_
  refine AW.topR (show RC 1 2 = 8 by decide +kernel) ?_
  refine gfX11_253 rfl (by decide +kernel) (OB.at (ci := 2) (show shp 8 = (12, 0) by decide +kernel) (by decide)) ?_
  refine ax_icmp_ge (off := 17) (tgt := 29) (x' := wr y3) (y' := wr (g 8 8)) (by decide +kernel) (by decide) rfl rfl (fun hc => ?_) (fun hc => ?_)
  · have hF := hF.1 hc
    refine aw_iload_n (k' := 2) (by decide +kernel) rfl ?_
    refine ax_if_ne (off := 7) (tgt := 37) (x' := wr y2) (by decide +kernel) (by decide) rfl (fun hc => ?_) (fun hc => ?_)
    · have hF := hF.1 hc
      refine aw_bipush (n := 100) (by decide +kernel) (by decide +kernel) ?_
      refine aw_aload_n (k' := 0) (by decide +kernel) rfl ?_
      refine aw_iload_n (k' := 1) (by decide +kernel) rfl ?_
      refine aw_callV (y := yX11_heldWeight) (M2 := mX11_heldWeight) (as := [vI x1]) (S := [vI 100]) (t := 1) (d2 := d) (b2 := 0) (b3 := b) cwX11_heldWeight mlX11_259 imX11_heldWeight seX11_heldWeight (by decide +kernel) rfl (ci := 9) rfl (OB.at (ci := 9) (show shp 1 = (19, 0) by decide +kernel) (by decide)) (Nat.le_refl _) (Nat.le_of_eq (Nat.zero_add _)) rfl rfl (by simp [oneSlot]) (Nat.le_of_ble_eq_true rfl) (Ct.mono hF ?_)
      rintro o h' (⟨v1, g1, rfl, rfl, hG⟩ | ⟨E, g, rfl, rfl, hG⟩)
      · show AW Γ l mX11_shareOf (d + 1) b 44 [vR 1, vI x1, vI y2, vI y3] [vI v1, vI 100] (stt g1) K
        refine aw_imul (by decide +kernel) ?_
        refine aw_iload_n (k' := 2) (by decide +kernel) rfl ?_
        refine aw_idiv (by decide +kernel) hG.1 ?_
        replace hG := hG.2
        exact aw_iret (by decide +kernel) rfl hG
      · exact hG
    · have hF := hF.2 hc
      refine aw_iconst (n := 0) (by decide +kernel) ?_
      refine aw_goto (off := 13) (tgt := 47) (by decide +kernel) (by decide) ?_
      exact aw_iret (by decide +kernel) rfl hF
  · have hF := hF.2 hc
    refine aw_iload_n (k' := 2) (by decide +kernel) rfl ?_
    refine aw_aload_n (k' := 0) (by decide +kernel) rfl ?_
    refine aw_iload_n (k' := 3) (by decide +kernel) rfl ?_
    refine aw_callV (y := yX11_heldWeight) (M2 := mX11_heldWeight) (as := [vI y3]) (S := [vI y2]) (t := 1) (d2 := d) (b2 := 0) (b3 := b) cwX11_heldWeight mlX11_259 imX11_heldWeight seX11_heldWeight (by decide +kernel) rfl (ci := 9) rfl (OB.at (ci := 9) (show shp 1 = (19, 0) by decide +kernel) (by decide)) (Nat.le_refl _) (Nat.le_of_eq (Nat.zero_add _)) rfl rfl (by simp [oneSlot]) (Nat.le_of_ble_eq_true rfl) (Ct.mono hF ?_)
    rintro o h' (⟨v2, g2, rfl, rfl, hG⟩ | ⟨E, g, rfl, rfl, hG⟩)
    · show AW Γ l mX11_shareOf (d + 1) b 21 [vR 1, vI x1, vI y2, vI y3] [vI v2, vI y2] (stt g2) K
      refine aw_iadd (by decide +kernel) ?_
      refine aw_istore_n (k' := 2) (by decide +kernel) (by decide) ?_
      show AW Γ l mX11_shareOf (d + 1) b 23 [vR 1, vI x1, vI (y2 + v2), vI y3] [] (stt g2) K
      refine aw_iinc (i := 3) (n := 1) (by decide +kernel) rfl (by decide) ?_
      show AW Γ l mX11_shareOf (d + 1) b 26 [vR 1, vI x1, vI (y2 + v2), vI (y3 + 1)] [] (stt g2) K
      refine aw_goto (off := -22) (tgt := 4) (by decide +kernel) (by decide) ?_
      exact hG
    · exact hG

set_option maxHeartbeats 1000000 in
theorem wpX11_heldWeight {Γ : Cfg} {l : Launch} {d b : Nat} {g : GG} {K : Ou → HP → Prop} {x1 : Int} (hF : Ct Γ l d 0 yX2_heldCount mX2_heldCount [vR 8, vI x1] (stt g) (bI (fun v1 g1 => Ct Γ l d 0 yX7_weight mX7_weight [vR 153, vR 8, vI x1, vI v1] (stt g1) (bI (fun v2 g2 => K (.inl (vI v2)) (stt g2)) K)) K)) : Ct Γ l (d + 1) b yX11_heldWeight mX11_heldWeight [vR 1, vI x1] (stt g) K := by
  refine Ct.enter (L := [vR 1, vI x1]) rfl rfl rfl (by decide +kernel) (by simp [oneSlot]) (Nat.le_of_ble_eq_true rfl) rfl ?_
  refine aw_aload_n (k' := 0) (by decide +kernel) rfl ?_
  refine gfX11_58 rfl (by decide +kernel) (OB.at (ci := 9) (show shp 1 = (19, 0) by decide +kernel) (by decide)) ?_
  refine AW.topR (show RC 1 9 = 153 by decide +kernel) ?_
  refine aw_aload_n (k' := 0) (by decide +kernel) rfl ?_
  refine gfX11_26 rfl (by decide +kernel) (OB.at (ci := 9) (show shp 1 = (19, 0) by decide +kernel) (by decide)) ?_
  refine AW.topR (show RC 1 2 = 8 by decide +kernel) ?_
  refine aw_iload_n (k' := 1) (by decide +kernel) rfl ?_
  refine aw_aload_n (k' := 0) (by decide +kernel) rfl ?_
  refine gfX11_26 rfl (by decide +kernel) (OB.at (ci := 9) (show shp 1 = (19, 0) by decide +kernel) (by decide)) ?_
  refine AW.topR (show RC 1 2 = 8 by decide +kernel) ?_
  refine aw_iload_n (k' := 1) (by decide +kernel) rfl ?_
  refine aw_callV (y := yX2_heldCount) (M2 := mX2_heldCount) (as := [vI x1]) (S := [vI x1, vR 8, vR 153]) (t := 8) (d2 := d) (b2 := 0) (b3 := b) cwX2_heldCount mlX11_219 imX2_heldCount seX2_heldCount (by decide +kernel) rfl (ci := 2) rfl (OB.at (ci := 2) (show shp 8 = (12, 0) by decide +kernel) (by decide)) (Nat.le_refl _) (Nat.le_of_eq (Nat.zero_add _)) rfl rfl (by simp [oneSlot]) (Nat.le_of_ble_eq_true rfl) (Ct.mono hF ?_)
  rintro o h' (⟨v1, g1, rfl, rfl, hG⟩ | ⟨E, g, rfl, rfl, hG⟩)
  · show AW Γ l mX11_heldWeight (d + 1) b 17 [vR 1, vI x1] [vI v1, vI x1, vR 8, vR 153] (stt g1) K
    refine aw_callV (y := yX7_weight) (M2 := mX7_weight) (as := [vR 8, vI x1, vI v1]) (S := []) (t := 153) (d2 := d) (b2 := 0) (b3 := b) cwX7_weight mlX11_191 imX7_weight seX7_weight (by decide +kernel) rfl (ci := 6) rfl (OB.at (ci := 6) (show shp 153 = (16, 0) by decide +kernel) (by decide)) (Nat.le_refl _) (Nat.le_of_eq (Nat.zero_add _)) rfl rfl (by simp [oneSlot]) (Nat.le_of_ble_eq_true rfl) (Ct.mono hG ?_)
    rintro o h' (⟨v2, g2, rfl, rfl, hG⟩ | ⟨E, g, rfl, rfl, hG⟩)
    · show AW Γ l mX11_heldWeight (d + 1) b 20 [vR 1, vI x1] [vI v2] (stt g2) K
      exact aw_iret (by decide +kernel) rfl hG
    · exact hG
  · exact hG

set_option maxHeartbeats 1000000 in
theorem wpX11_hours {Γ : Cfg} {l : Launch} {d b : Nat} {g : GG} {K : Ou → HP → Prop} {x1 : Int} (hb : 1 ≤ b) (hF : Ct Γ l d 1 yX11_needNumber mX11_needNumber [vI x1, vI 1, vI 60] (stt g) (bV (fun g1 => Ct Γ l d 0 yX11_rememberAct mX11_rememberAct [vR 1] (stt g1) (bV (fun g2 => Ct Γ l d 0 yX1_passHours mX1_passHours [vR 160, vR 8, vI x1] (stt g2) (bI (fun v1 g3 => K (.inl (vI v1)) (stt g3)) K)) K)) K)) : Ct Γ l (d + 1) b yX11_hours mX11_hours [vR 1, vI x1] (stt g) K := by
  refine Ct.enter (L := [vR 1, vI x1]) rfl rfl rfl (by decide +kernel) (by simp [oneSlot]) (Nat.le_of_ble_eq_true rfl) rfl ?_
  refine aw_iload_n (k' := 1) (by decide +kernel) rfl ?_
  refine aw_iconst (n := 1) (by decide +kernel) ?_
  refine aw_bipush (n := 60) (by decide +kernel) (by decide +kernel) ?_
  refine aw_callS (y := yX11_needNumber) (M2 := mX11_needNumber) (as := [vI x1, vI 1, vI 60]) (S := []) (d2 := d) (b2 := 1) (b3 := b - 1) cwX11_needNumber mlX11_262 stX11_needNumber (by decide +kernel) rfl (Nat.le_refl _) (by omega) rfl rfl (by simp [oneSlot]) (Nat.le_of_ble_eq_true rfl) (Ct.mono hF ?_)
  rintro o h' (⟨g1, rfl, rfl, hG⟩ | ⟨E, g, rfl, rfl, hG⟩)
  · show AW Γ l mX11_hours (d + 1) (b - 1) 7 [vR 1, vI x1] [] (stt g1) K
    refine aw_aload_n (k' := 0) (by decide +kernel) rfl ?_
    refine aw_callV (y := yX11_rememberAct) (M2 := mX11_rememberAct) (as := []) (S := []) (t := 1) (d2 := d) (b2 := 0) (b3 := b - 1) cwX11_rememberAct mlX11_266 imX11_rememberAct seX11_rememberAct (by decide +kernel) rfl (ci := 9) rfl (OB.at (ci := 9) (show shp 1 = (19, 0) by decide +kernel) (by decide)) (Nat.le_refl _) (Nat.le_of_eq (Nat.zero_add _)) rfl rfl (by simp [oneSlot]) (Nat.le_of_ble_eq_true rfl) (Ct.mono hG ?_)
    rintro o h' (⟨g2, rfl, rfl, hG⟩ | ⟨E, g, rfl, rfl, hG⟩)
    · show AW Γ l mX11_hours (d + 1) (b - 1) 11 [vR 1, vI x1] [] (stt g2) K
      refine aw_aload_n (k' := 0) (by decide +kernel) rfl ?_
      refine gfX11_67 rfl (by decide +kernel) (OB.at (ci := 9) (show shp 1 = (19, 0) by decide +kernel) (by decide)) ?_
      refine AW.topR (show RC 1 10 = 160 by decide +kernel) ?_
      refine aw_aload_n (k' := 0) (by decide +kernel) rfl ?_
      refine gfX11_26 rfl (by decide +kernel) (OB.at (ci := 9) (show shp 1 = (19, 0) by decide +kernel) (by decide)) ?_
      refine AW.topR (show RC 1 2 = 8 by decide +kernel) ?_
      refine aw_iload_n (k' := 1) (by decide +kernel) rfl ?_
      refine aw_callV (y := yX1_passHours) (M2 := mX1_passHours) (as := [vR 8, vI x1]) (S := []) (t := 160) (d2 := d) (b2 := 0) (b3 := b - 1) cwX1_passHours mlX11_269 imX1_passHours seX1_passHours (by decide +kernel) rfl (ci := 1) rfl (OB.at (ci := 1) (show shp 160 = (11, 0) by decide +kernel) (by decide)) (Nat.le_refl _) (Nat.le_of_eq (Nat.zero_add _)) rfl rfl (by simp [oneSlot]) (Nat.le_of_ble_eq_true rfl) (Ct.mono hG ?_)
      rintro o h' (⟨v1, g3, rfl, rfl, hG⟩ | ⟨E, g, rfl, rfl, hG⟩)
      · show AW Γ l mX11_hours (d + 1) (b - 1) 23 [vR 1, vI x1] [vI v1] (stt g3) K
        exact aw_iret (by decide +kernel) rfl hG
      · exact hG
    · exact hG
  · exact hG

set_option maxHeartbeats 1000000 in
theorem wpX11_begin {Γ : Cfg} {l : Launch} {d b : Nat} {g : GG} {K : Ou → HP → Prop} {x1 : Int} (hb : 2 ≤ b) (hF : Ct Γ l d 1 yX11_needPerson mX11_needPerson [vR 1, vI x1] (stt g) (bV (fun g1 => Ct Γ l d 1 yX11_needState mX11_needState [vR 1, vI x1, vI 0] (stt g1) (bV (fun g2 => Ct Γ l d 0 yX11_rememberAct mX11_rememberAct [vR 1] (stt g2) (bV (fun g3 => Ct Γ l d 0 yX2_settle mX2_settle [vR 8, vI x1, vI 1, vI 0] (stt g3) (bV (fun g4 => K (.inl (vI (cel g4 10 x1))) (stt g4)) K)) K)) K)) K)) : Ct Γ l (d + 1) b yX11_begin mX11_begin [vR 1, vI x1] (stt g) K := by
  refine Ct.enter (L := [vR 1, vI x1]) rfl rfl rfl (by decide +kernel) (by simp [oneSlot]) (Nat.le_of_ble_eq_true rfl) rfl ?_
  refine aw_aload_n (k' := 0) (by decide +kernel) rfl ?_
  refine aw_iload_n (k' := 1) (by decide +kernel) rfl ?_
  refine aw_callV (y := yX11_needPerson) (M2 := mX11_needPerson) (as := [vI x1]) (S := []) (t := 1) (d2 := d) (b2 := 1) (b3 := b - 1) cwX11_needPerson mlX11_162 imX11_needPerson seX11_needPerson (by decide +kernel) rfl (ci := 9) rfl (OB.at (ci := 9) (show shp 1 = (19, 0) by decide +kernel) (by decide)) (Nat.le_refl _) (by omega) rfl rfl (by simp [oneSlot]) (Nat.le_of_ble_eq_true rfl) (Ct.mono hF ?_)
  rintro o h' (⟨g1, rfl, rfl, hG⟩ | ⟨E, g, rfl, rfl, hG⟩)
  · show AW Γ l mX11_begin (d + 1) (b - 1) 5 [vR 1, vI x1] [] (stt g1) K
    refine aw_aload_n (k' := 0) (by decide +kernel) rfl ?_
    refine aw_iload_n (k' := 1) (by decide +kernel) rfl ?_
    refine aw_iconst (n := 0) (by decide +kernel) ?_
    refine aw_callV (y := yX11_needState) (M2 := mX11_needState) (as := [vI x1, vI 0]) (S := []) (t := 1) (d2 := d) (b2 := 1) (b3 := b - 1 - 1) cwX11_needState mlX11_273 imX11_needState seX11_needState (by decide +kernel) rfl (ci := 9) rfl (OB.at (ci := 9) (show shp 1 = (19, 0) by decide +kernel) (by decide)) (Nat.le_refl _) (by omega) rfl rfl (by simp [oneSlot]) (Nat.le_of_ble_eq_true rfl) (Ct.mono hG ?_)
    rintro o h' (⟨g2, rfl, rfl, hG⟩ | ⟨E, g, rfl, rfl, hG⟩)
    · show AW Γ l mX11_begin (d + 1) (b - 1 - 1) 11 [vR 1, vI x1] [] (stt g2) K
      refine aw_aload_n (k' := 0) (by decide +kernel) rfl ?_
      refine aw_callV (y := yX11_rememberAct) (M2 := mX11_rememberAct) (as := []) (S := []) (t := 1) (d2 := d) (b2 := 0) (b3 := b - 1 - 1) cwX11_rememberAct mlX11_266 imX11_rememberAct seX11_rememberAct (by decide +kernel) rfl (ci := 9) rfl (OB.at (ci := 9) (show shp 1 = (19, 0) by decide +kernel) (by decide)) (Nat.le_refl _) (Nat.le_of_eq (Nat.zero_add _)) rfl rfl (by simp [oneSlot]) (Nat.le_of_ble_eq_true rfl) (Ct.mono hG ?_)
      rintro o h' (⟨g3, rfl, rfl, hG⟩ | ⟨E, g, rfl, rfl, hG⟩)
      · show AW Γ l mX11_begin (d + 1) (b - 1 - 1) 15 [vR 1, vI x1] [] (stt g3) K
        refine aw_aload_n (k' := 0) (by decide +kernel) rfl ?_
        refine gfX11_26 rfl (by decide +kernel) (OB.at (ci := 9) (show shp 1 = (19, 0) by decide +kernel) (by decide)) ?_
        refine AW.topR (show RC 1 2 = 8 by decide +kernel) ?_
        refine aw_iload_n (k' := 1) (by decide +kernel) rfl ?_
        refine aw_iconst (n := 1) (by decide +kernel) ?_
        refine aw_iconst (n := 0) (by decide +kernel) ?_
        refine aw_callV (y := yX2_settle) (M2 := mX2_settle) (as := [vI x1, vI 1, vI 0]) (S := []) (t := 8) (d2 := d) (b2 := 0) (b3 := b - 1 - 1) cwX2_settle mlX11_277 imX2_settle seX2_settle (by decide +kernel) rfl (ci := 2) rfl (OB.at (ci := 2) (show shp 8 = (12, 0) by decide +kernel) (by decide)) (Nat.le_refl _) (Nat.le_of_eq (Nat.zero_add _)) rfl rfl (by simp [oneSlot]) (Nat.le_of_ble_eq_true rfl) (Ct.mono hG ?_)
        rintro o h' (⟨g4, rfl, rfl, hG⟩ | ⟨E, g, rfl, rfl, hG⟩)
        · show AW Γ l mX11_begin (d + 1) (b - 1 - 1) 25 [vR 1, vI x1] [] (stt g4) K
          refine aw_aload_n (k' := 0) (by decide +kernel) rfl ?_
          refine gfX11_26 rfl (by decide +kernel) (OB.at (ci := 9) (show shp 1 = (19, 0) by decide +kernel) (by decide)) ?_
          refine AW.topR (show RC 1 2 = 8 by decide +kernel) ?_
          refine gfX11_165 rfl (by decide +kernel) (OB.at (ci := 2) (show shp 8 = (12, 0) by decide +kernel) (by decide)) ?_
          refine AW.topR (show RC 8 1 = 10 by decide +kernel) ?_
          refine aw_iload_n (k' := 1) (by decide +kernel) rfl ?_
          refine aw_callS (y := yX11_cell) (M2 := mX11_cell) (as := [vR 10, vI x1]) (S := []) (d2 := d) (b2 := 0) (b3 := b - 1 - 1) cwX11_cell mlX11_168 stX11_cell (by decide +kernel) rfl (Nat.le_refl _) (Nat.le_of_eq (Nat.zero_add _)) rfl rfl (by simp [oneSlot]) (Nat.le_of_ble_eq_true rfl) (c_cell (show (shp 10).1 = 0 by decide +kernel) ?_)
          show AW Γ l mX11_begin (d + 1) (b - 1 - 1) 36 [vR 1, vI x1] [vI (cel g4 10 x1)] (stt g4) K
          exact aw_iret (by decide +kernel) rfl hG
        · exact hG
      · exact hG
    · exact hG
  · exact hG

set_option maxHeartbeats 1000000 in
theorem wpX11_stop {Γ : Cfg} {l : Launch} {d b : Nat} {g : GG} {K : Ou → HP → Prop} {x1 : Int} {x2 : Int} (hb : 3 ≤ b) (hF : Ct Γ l d 1 yX11_needPerson mX11_needPerson [vR 1, vI x1] (stt g) (bV (fun g1 => Ct Γ l d 1 yX11_needNumber mX11_needNumber [vI x2, vI 0, vI 4] (stt g1) (bV (fun g2 => Ct Γ l d 1 yX11_needState mX11_needState [vR 1, vI x1, vI 1] (stt g2) (bV (fun g3 => Ct Γ l d 0 yX11_rememberAct mX11_rememberAct [vR 1] (stt g3) (bV (fun g4 => Ct Γ l d 0 yX1_breakIn mX1_breakIn [vR 160, vR 8, vI x1, vI x2] (stt g4) (bI (fun v1 g5 => K (.inl (vI v1)) (stt g5)) K)) K)) K)) K)) K)) : Ct Γ l (d + 1) b yX11_stop mX11_stop [vR 1, vI x1, vI x2] (stt g) K := by
  refine Ct.enter (L := [vR 1, vI x1, vI x2]) rfl rfl rfl (by decide +kernel) (by simp [oneSlot]) (Nat.le_of_ble_eq_true rfl) rfl ?_
  refine aw_aload_n (k' := 0) (by decide +kernel) rfl ?_
  refine aw_iload_n (k' := 1) (by decide +kernel) rfl ?_
  refine aw_callV (y := yX11_needPerson) (M2 := mX11_needPerson) (as := [vI x1]) (S := []) (t := 1) (d2 := d) (b2 := 1) (b3 := b - 1) cwX11_needPerson mlX11_162 imX11_needPerson seX11_needPerson (by decide +kernel) rfl (ci := 9) rfl (OB.at (ci := 9) (show shp 1 = (19, 0) by decide +kernel) (by decide)) (Nat.le_refl _) (by omega) rfl rfl (by simp [oneSlot]) (Nat.le_of_ble_eq_true rfl) (Ct.mono hF ?_)
  rintro o h' (⟨g1, rfl, rfl, hG⟩ | ⟨E, g, rfl, rfl, hG⟩)
  · show AW Γ l mX11_stop (d + 1) (b - 1) 5 [vR 1, vI x1, vI x2] [] (stt g1) K
    refine aw_iload_n (k' := 2) (by decide +kernel) rfl ?_
    refine aw_iconst (n := 0) (by decide +kernel) ?_
    refine aw_iconst (n := 4) (by decide +kernel) ?_
    refine aw_callS (y := yX11_needNumber) (M2 := mX11_needNumber) (as := [vI x2, vI 0, vI 4]) (S := []) (d2 := d) (b2 := 1) (b3 := b - 1 - 1) cwX11_needNumber mlX11_262 stX11_needNumber (by decide +kernel) rfl (Nat.le_refl _) (by omega) rfl rfl (by simp [oneSlot]) (Nat.le_of_ble_eq_true rfl) (Ct.mono hG ?_)
    rintro o h' (⟨g2, rfl, rfl, hG⟩ | ⟨E, g, rfl, rfl, hG⟩)
    · show AW Γ l mX11_stop (d + 1) (b - 1 - 1) 11 [vR 1, vI x1, vI x2] [] (stt g2) K
      refine aw_aload_n (k' := 0) (by decide +kernel) rfl ?_
      refine aw_iload_n (k' := 1) (by decide +kernel) rfl ?_
      refine aw_iconst (n := 1) (by decide +kernel) ?_
      refine aw_callV (y := yX11_needState) (M2 := mX11_needState) (as := [vI x1, vI 1]) (S := []) (t := 1) (d2 := d) (b2 := 1) (b3 := b - 1 - 1 - 1) cwX11_needState mlX11_273 imX11_needState seX11_needState (by decide +kernel) rfl (ci := 9) rfl (OB.at (ci := 9) (show shp 1 = (19, 0) by decide +kernel) (by decide)) (Nat.le_refl _) (by omega) rfl rfl (by simp [oneSlot]) (Nat.le_of_ble_eq_true rfl) (Ct.mono hG ?_)
      rintro o h' (⟨g3, rfl, rfl, hG⟩ | ⟨E, g, rfl, rfl, hG⟩)
      · show AW Γ l mX11_stop (d + 1) (b - 1 - 1 - 1) 17 [vR 1, vI x1, vI x2] [] (stt g3) K
        refine aw_aload_n (k' := 0) (by decide +kernel) rfl ?_
        refine aw_callV (y := yX11_rememberAct) (M2 := mX11_rememberAct) (as := []) (S := []) (t := 1) (d2 := d) (b2 := 0) (b3 := b - 1 - 1 - 1) cwX11_rememberAct mlX11_266 imX11_rememberAct seX11_rememberAct (by decide +kernel) rfl (ci := 9) rfl (OB.at (ci := 9) (show shp 1 = (19, 0) by decide +kernel) (by decide)) (Nat.le_refl _) (Nat.le_of_eq (Nat.zero_add _)) rfl rfl (by simp [oneSlot]) (Nat.le_of_ble_eq_true rfl) (Ct.mono hG ?_)
        rintro o h' (⟨g4, rfl, rfl, hG⟩ | ⟨E, g, rfl, rfl, hG⟩)
        · show AW Γ l mX11_stop (d + 1) (b - 1 - 1 - 1) 21 [vR 1, vI x1, vI x2] [] (stt g4) K
          refine aw_aload_n (k' := 0) (by decide +kernel) rfl ?_
          refine gfX11_67 rfl (by decide +kernel) (OB.at (ci := 9) (show shp 1 = (19, 0) by decide +kernel) (by decide)) ?_
          refine AW.topR (show RC 1 10 = 160 by decide +kernel) ?_
          refine aw_aload_n (k' := 0) (by decide +kernel) rfl ?_
          refine gfX11_26 rfl (by decide +kernel) (OB.at (ci := 9) (show shp 1 = (19, 0) by decide +kernel) (by decide)) ?_
          refine AW.topR (show RC 1 2 = 8 by decide +kernel) ?_
          refine aw_iload_n (k' := 1) (by decide +kernel) rfl ?_
          refine aw_iload_n (k' := 2) (by decide +kernel) rfl ?_
          refine aw_callV (y := yX1_breakIn) (M2 := mX1_breakIn) (as := [vR 8, vI x1, vI x2]) (S := []) (t := 160) (d2 := d) (b2 := 0) (b3 := b - 1 - 1 - 1) cwX1_breakIn mlX11_280 imX1_breakIn seX1_breakIn (by decide +kernel) rfl (ci := 1) rfl (OB.at (ci := 1) (show shp 160 = (11, 0) by decide +kernel) (by decide)) (Nat.le_refl _) (Nat.le_of_eq (Nat.zero_add _)) rfl rfl (by simp [oneSlot]) (Nat.le_of_ble_eq_true rfl) (Ct.mono hG ?_)
          rintro o h' (⟨v1, g5, rfl, rfl, hG⟩ | ⟨E, g, rfl, rfl, hG⟩)
          · show AW Γ l mX11_stop (d + 1) (b - 1 - 1 - 1) 34 [vR 1, vI x1, vI x2] [vI v1] (stt g5) K
            exact aw_iret (by decide +kernel) rfl hG
          · exact hG
        · exact hG
      · exact hG
    · exact hG
  · exact hG

set_option maxHeartbeats 1000000 in
theorem wpX11_finish {Γ : Cfg} {l : Launch} {d b : Nat} {g : GG} {K : Ou → HP → Prop} {x1 : Int} (hb : 2 ≤ b) (hF : Ct Γ l d 1 yX11_needPerson mX11_needPerson [vR 1, vI x1] (stt g) (bV (fun g1 => Ct Γ l d 1 yX11_needState mX11_needState [vR 1, vI x1, vI 1] (stt g1) (bV (fun g2 => Ct Γ l d 0 yX11_rememberAct mX11_rememberAct [vR 1] (stt g2) (bV (fun g3 => Ct Γ l d 0 yX1_letFinish mX1_letFinish [vR 160, vR 8, vI x1] (stt g3) (bI (fun v1 g4 => K (.inl (vI v1)) (stt g4)) K)) K)) K)) K)) : Ct Γ l (d + 1) b yX11_finish mX11_finish [vR 1, vI x1] (stt g) K := by
  refine Ct.enter (L := [vR 1, vI x1]) rfl rfl rfl (by decide +kernel) (by simp [oneSlot]) (Nat.le_of_ble_eq_true rfl) rfl ?_
  refine aw_aload_n (k' := 0) (by decide +kernel) rfl ?_
  refine aw_iload_n (k' := 1) (by decide +kernel) rfl ?_
  refine aw_callV (y := yX11_needPerson) (M2 := mX11_needPerson) (as := [vI x1]) (S := []) (t := 1) (d2 := d) (b2 := 1) (b3 := b - 1) cwX11_needPerson mlX11_162 imX11_needPerson seX11_needPerson (by decide +kernel) rfl (ci := 9) rfl (OB.at (ci := 9) (show shp 1 = (19, 0) by decide +kernel) (by decide)) (Nat.le_refl _) (by omega) rfl rfl (by simp [oneSlot]) (Nat.le_of_ble_eq_true rfl) (Ct.mono hF ?_)
  rintro o h' (⟨g1, rfl, rfl, hG⟩ | ⟨E, g, rfl, rfl, hG⟩)
  · show AW Γ l mX11_finish (d + 1) (b - 1) 5 [vR 1, vI x1] [] (stt g1) K
    refine aw_aload_n (k' := 0) (by decide +kernel) rfl ?_
    refine aw_iload_n (k' := 1) (by decide +kernel) rfl ?_
    refine aw_iconst (n := 1) (by decide +kernel) ?_
    refine aw_callV (y := yX11_needState) (M2 := mX11_needState) (as := [vI x1, vI 1]) (S := []) (t := 1) (d2 := d) (b2 := 1) (b3 := b - 1 - 1) cwX11_needState mlX11_273 imX11_needState seX11_needState (by decide +kernel) rfl (ci := 9) rfl (OB.at (ci := 9) (show shp 1 = (19, 0) by decide +kernel) (by decide)) (Nat.le_refl _) (by omega) rfl rfl (by simp [oneSlot]) (Nat.le_of_ble_eq_true rfl) (Ct.mono hG ?_)
    rintro o h' (⟨g2, rfl, rfl, hG⟩ | ⟨E, g, rfl, rfl, hG⟩)
    · show AW Γ l mX11_finish (d + 1) (b - 1 - 1) 11 [vR 1, vI x1] [] (stt g2) K
      refine aw_aload_n (k' := 0) (by decide +kernel) rfl ?_
      refine aw_callV (y := yX11_rememberAct) (M2 := mX11_rememberAct) (as := []) (S := []) (t := 1) (d2 := d) (b2 := 0) (b3 := b - 1 - 1) cwX11_rememberAct mlX11_266 imX11_rememberAct seX11_rememberAct (by decide +kernel) rfl (ci := 9) rfl (OB.at (ci := 9) (show shp 1 = (19, 0) by decide +kernel) (by decide)) (Nat.le_refl _) (Nat.le_of_eq (Nat.zero_add _)) rfl rfl (by simp [oneSlot]) (Nat.le_of_ble_eq_true rfl) (Ct.mono hG ?_)
      rintro o h' (⟨g3, rfl, rfl, hG⟩ | ⟨E, g, rfl, rfl, hG⟩)
      · show AW Γ l mX11_finish (d + 1) (b - 1 - 1) 15 [vR 1, vI x1] [] (stt g3) K
        refine aw_aload_n (k' := 0) (by decide +kernel) rfl ?_
        refine gfX11_67 rfl (by decide +kernel) (OB.at (ci := 9) (show shp 1 = (19, 0) by decide +kernel) (by decide)) ?_
        refine AW.topR (show RC 1 10 = 160 by decide +kernel) ?_
        refine aw_aload_n (k' := 0) (by decide +kernel) rfl ?_
        refine gfX11_26 rfl (by decide +kernel) (OB.at (ci := 9) (show shp 1 = (19, 0) by decide +kernel) (by decide)) ?_
        refine AW.topR (show RC 1 2 = 8 by decide +kernel) ?_
        refine aw_iload_n (k' := 1) (by decide +kernel) rfl ?_
        refine aw_callV (y := yX1_letFinish) (M2 := mX1_letFinish) (as := [vR 8, vI x1]) (S := []) (t := 160) (d2 := d) (b2 := 0) (b3 := b - 1 - 1) cwX1_letFinish mlX11_283 imX1_letFinish seX1_letFinish (by decide +kernel) rfl (ci := 1) rfl (OB.at (ci := 1) (show shp 160 = (11, 0) by decide +kernel) (by decide)) (Nat.le_refl _) (Nat.le_of_eq (Nat.zero_add _)) rfl rfl (by simp [oneSlot]) (Nat.le_of_ble_eq_true rfl) (Ct.mono hG ?_)
        rintro o h' (⟨v1, g4, rfl, rfl, hG⟩ | ⟨E, g, rfl, rfl, hG⟩)
        · show AW Γ l mX11_finish (d + 1) (b - 1 - 1) 27 [vR 1, vI x1] [vI v1] (stt g4) K
          exact aw_iret (by decide +kernel) rfl hG
        · exact hG
      · exact hG
    · exact hG
  · exact hG

set_option maxHeartbeats 1000000 in
theorem wpX11_retract {Γ : Cfg} {l : Launch} {d b : Nat} {g : GG} {K : Ou → HP → Prop} {x1 : Int} (hb : 2 ≤ b) (hF : Ct Γ l d 1 yX11_needPerson mX11_needPerson [vR 1, vI x1] (stt g) (bV (fun g1 => Ct Γ l d 1 yX11_needState mX11_needState [vR 1, vI x1, vI 2] (stt g1) (bV (fun g2 => Ct Γ l d 0 yX11_rememberAct mX11_rememberAct [vR 1] (stt g2) (bV (fun g3 => Ct Γ l d 0 yX7_weight mX7_weight [vR 153, vR 8, vI x1, vI (cel g3 14 x1)] (stt g3) (bI (fun v1 g4 => Ct Γ l d 0 yX2_note mX2_note [vR 8, vI x1, vI 6, vI (cel g3 14 x1), vI v1] (stt g4) (bV (fun g5 => Ct Γ l d 0 yX2_settle mX2_settle [vR 8, vI x1, vI 0, vI 0] (stt g5) (bV (fun g6 => K (.inl (vI (cel g3 14 x1))) (stt g6)) K)) K)) K)) K)) K)) K)) : Ct Γ l (d + 1) b yX11_retract mX11_retract [vR 1, vI x1] (stt g) K := by
  refine Ct.enter (L := [vR 1, vI x1, vU]) rfl rfl rfl (by decide +kernel) (by simp [oneSlot]) (Nat.le_of_ble_eq_true rfl) rfl ?_
  refine aw_aload_n (k' := 0) (by decide +kernel) rfl ?_
  refine aw_iload_n (k' := 1) (by decide +kernel) rfl ?_
  refine aw_callV (y := yX11_needPerson) (M2 := mX11_needPerson) (as := [vI x1]) (S := []) (t := 1) (d2 := d) (b2 := 1) (b3 := b - 1) cwX11_needPerson mlX11_162 imX11_needPerson seX11_needPerson (by decide +kernel) rfl (ci := 9) rfl (OB.at (ci := 9) (show shp 1 = (19, 0) by decide +kernel) (by decide)) (Nat.le_refl _) (by omega) rfl rfl (by simp [oneSlot]) (Nat.le_of_ble_eq_true rfl) (Ct.mono hF ?_)
  rintro o h' (⟨g1, rfl, rfl, hG⟩ | ⟨E, g, rfl, rfl, hG⟩)
  · show AW Γ l mX11_retract (d + 1) (b - 1) 5 [vR 1, vI x1, vU] [] (stt g1) K
    refine aw_aload_n (k' := 0) (by decide +kernel) rfl ?_
    refine aw_iload_n (k' := 1) (by decide +kernel) rfl ?_
    refine aw_iconst (n := 2) (by decide +kernel) ?_
    refine aw_callV (y := yX11_needState) (M2 := mX11_needState) (as := [vI x1, vI 2]) (S := []) (t := 1) (d2 := d) (b2 := 1) (b3 := b - 1 - 1) cwX11_needState mlX11_273 imX11_needState seX11_needState (by decide +kernel) rfl (ci := 9) rfl (OB.at (ci := 9) (show shp 1 = (19, 0) by decide +kernel) (by decide)) (Nat.le_refl _) (by omega) rfl rfl (by simp [oneSlot]) (Nat.le_of_ble_eq_true rfl) (Ct.mono hG ?_)
    rintro o h' (⟨g2, rfl, rfl, hG⟩ | ⟨E, g, rfl, rfl, hG⟩)
    · show AW Γ l mX11_retract (d + 1) (b - 1 - 1) 11 [vR 1, vI x1, vU] [] (stt g2) K
      refine aw_aload_n (k' := 0) (by decide +kernel) rfl ?_
      refine aw_callV (y := yX11_rememberAct) (M2 := mX11_rememberAct) (as := []) (S := []) (t := 1) (d2 := d) (b2 := 0) (b3 := b - 1 - 1) cwX11_rememberAct mlX11_266 imX11_rememberAct seX11_rememberAct (by decide +kernel) rfl (ci := 9) rfl (OB.at (ci := 9) (show shp 1 = (19, 0) by decide +kernel) (by decide)) (Nat.le_refl _) (Nat.le_of_eq (Nat.zero_add _)) rfl rfl (by simp [oneSlot]) (Nat.le_of_ble_eq_true rfl) (Ct.mono hG ?_)
      rintro o h' (⟨g3, rfl, rfl, hG⟩ | ⟨E, g, rfl, rfl, hG⟩)
      · show AW Γ l mX11_retract (d + 1) (b - 1 - 1) 15 [vR 1, vI x1, vU] [] (stt g3) K
        refine aw_aload_n (k' := 0) (by decide +kernel) rfl ?_
        refine gfX11_26 rfl (by decide +kernel) (OB.at (ci := 9) (show shp 1 = (19, 0) by decide +kernel) (by decide)) ?_
        refine AW.topR (show RC 1 2 = 8 by decide +kernel) ?_
        refine gfX11_181 rfl (by decide +kernel) (OB.at (ci := 2) (show shp 8 = (12, 0) by decide +kernel) (by decide)) ?_
        refine AW.topR (show RC 8 5 = 14 by decide +kernel) ?_
        refine aw_iload_n (k' := 1) (by decide +kernel) rfl ?_
        refine aw_callS (y := yX11_cell) (M2 := mX11_cell) (as := [vR 14, vI x1]) (S := []) (d2 := d) (b2 := 0) (b3 := b - 1 - 1) cwX11_cell mlX11_168 stX11_cell (by decide +kernel) rfl (Nat.le_refl _) (Nat.le_of_eq (Nat.zero_add _)) rfl rfl (by simp [oneSlot]) (Nat.le_of_ble_eq_true rfl) (c_cell (show (shp 14).1 = 0 by decide +kernel) ?_)
        show AW Γ l mX11_retract (d + 1) (b - 1 - 1) 26 [vR 1, vI x1, vU] [vI (cel g3 14 x1)] (stt g3) K
        refine aw_istore_n (k' := 2) (by decide +kernel) (by decide) ?_
        show AW Γ l mX11_retract (d + 1) (b - 1 - 1) 27 [vR 1, vI x1, vI (cel g3 14 x1)] [] (stt g3) K
        refine aw_aload_n (k' := 0) (by decide +kernel) rfl ?_
        refine gfX11_26 rfl (by decide +kernel) (OB.at (ci := 9) (show shp 1 = (19, 0) by decide +kernel) (by decide)) ?_
        refine AW.topR (show RC 1 2 = 8 by decide +kernel) ?_
        refine aw_iload_n (k' := 1) (by decide +kernel) rfl ?_
        refine aw_bipush (n := 6) (by decide +kernel) (by decide +kernel) ?_
        refine aw_iload_n (k' := 2) (by decide +kernel) rfl ?_
        refine aw_aload_n (k' := 0) (by decide +kernel) rfl ?_
        refine gfX11_58 rfl (by decide +kernel) (OB.at (ci := 9) (show shp 1 = (19, 0) by decide +kernel) (by decide)) ?_
        refine AW.topR (show RC 1 9 = 153 by decide +kernel) ?_
        refine aw_aload_n (k' := 0) (by decide +kernel) rfl ?_
        refine gfX11_26 rfl (by decide +kernel) (OB.at (ci := 9) (show shp 1 = (19, 0) by decide +kernel) (by decide)) ?_
        refine AW.topR (show RC 1 2 = 8 by decide +kernel) ?_
        refine aw_iload_n (k' := 1) (by decide +kernel) rfl ?_
        refine aw_iload_n (k' := 2) (by decide +kernel) rfl ?_
        refine aw_callV (y := yX7_weight) (M2 := mX7_weight) (as := [vR 8, vI x1, vI (cel g3 14 x1)]) (S := [vI (cel g3 14 x1), vI 6, vI x1, vR 8]) (t := 153) (d2 := d) (b2 := 0) (b3 := b - 1 - 1) cwX7_weight mlX11_191 imX7_weight seX7_weight (by decide +kernel) rfl (ci := 6) rfl (OB.at (ci := 6) (show shp 153 = (16, 0) by decide +kernel) (by decide)) (Nat.le_refl _) (Nat.le_of_eq (Nat.zero_add _)) rfl rfl (by simp [oneSlot]) (Nat.le_of_ble_eq_true rfl) (Ct.mono hG ?_)
        rintro o h' (⟨v1, g4, rfl, rfl, hG⟩ | ⟨E, g, rfl, rfl, hG⟩)
        · show AW Γ l mX11_retract (d + 1) (b - 1 - 1) 48 [vR 1, vI x1, vI (cel g3 14 x1)] [vI v1, vI (cel g3 14 x1), vI 6, vI x1, vR 8] (stt g4) K
          refine aw_callV (y := yX2_note) (M2 := mX2_note) (as := [vI x1, vI 6, vI (cel g3 14 x1), vI v1]) (S := []) (t := 8) (d2 := d) (b2 := 0) (b3 := b - 1 - 1) cwX2_note mlX11_286 imX2_note seX2_note (by decide +kernel) rfl (ci := 2) rfl (OB.at (ci := 2) (show shp 8 = (12, 0) by decide +kernel) (by decide)) (Nat.le_refl _) (Nat.le_of_eq (Nat.zero_add _)) rfl rfl (by simp [oneSlot]) (Nat.le_of_ble_eq_true rfl) (Ct.mono hG ?_)
          rintro o h' (⟨g5, rfl, rfl, hG⟩ | ⟨E, g, rfl, rfl, hG⟩)
          · show AW Γ l mX11_retract (d + 1) (b - 1 - 1) 51 [vR 1, vI x1, vI (cel g3 14 x1)] [] (stt g5) K
            refine aw_aload_n (k' := 0) (by decide +kernel) rfl ?_
            refine gfX11_26 rfl (by decide +kernel) (OB.at (ci := 9) (show shp 1 = (19, 0) by decide +kernel) (by decide)) ?_
            refine AW.topR (show RC 1 2 = 8 by decide +kernel) ?_
            refine aw_iload_n (k' := 1) (by decide +kernel) rfl ?_
            refine aw_iconst (n := 0) (by decide +kernel) ?_
            refine aw_iconst (n := 0) (by decide +kernel) ?_
            refine aw_callV (y := yX2_settle) (M2 := mX2_settle) (as := [vI x1, vI 0, vI 0]) (S := []) (t := 8) (d2 := d) (b2 := 0) (b3 := b - 1 - 1) cwX2_settle mlX11_277 imX2_settle seX2_settle (by decide +kernel) rfl (ci := 2) rfl (OB.at (ci := 2) (show shp 8 = (12, 0) by decide +kernel) (by decide)) (Nat.le_refl _) (Nat.le_of_eq (Nat.zero_add _)) rfl rfl (by simp [oneSlot]) (Nat.le_of_ble_eq_true rfl) (Ct.mono hG ?_)
            rintro o h' (⟨g6, rfl, rfl, hG⟩ | ⟨E, g, rfl, rfl, hG⟩)
            · show AW Γ l mX11_retract (d + 1) (b - 1 - 1) 61 [vR 1, vI x1, vI (cel g3 14 x1)] [] (stt g6) K
              refine aw_iload_n (k' := 2) (by decide +kernel) rfl ?_
              exact aw_iret (by decide +kernel) rfl hG
            · exact hG
          · exact hG
        · exact hG
      · exact hG
    · exact hG
  · exact hG

set_option maxHeartbeats 1000000 in
theorem wpX11_guard {Γ : Cfg} {l : Launch} {d b : Nat} {g : GG} {K : Ou → HP → Prop} {x1 : Int} {x2 : Int} (hb : 2 ≤ b) (hF : Ct Γ l d 1 yX11_needPerson mX11_needPerson [vR 1, vI x1] (stt g) (bV (fun g1 => Ct Γ l d 1 yX11_needNumber mX11_needNumber [vI x2, vI 0, vI 9] (stt g1) (bV (fun g2 => Ct Γ l d 0 yX11_rememberAct mX11_rememberAct [vR 1] (stt g2) (bV (fun g3 => K (.inl (vI (cel g3 12 x1))) (stt (puc g3 12 x1 x2))) K)) K)) K)) : Ct Γ l (d + 1) b yX11_guard mX11_guard [vR 1, vI x1, vI x2] (stt g) K := by
  refine Ct.enter (L := [vR 1, vI x1, vI x2, vU]) rfl rfl rfl (by decide +kernel) (by simp [oneSlot]) (Nat.le_of_ble_eq_true rfl) rfl ?_
  refine aw_aload_n (k' := 0) (by decide +kernel) rfl ?_
  refine aw_iload_n (k' := 1) (by decide +kernel) rfl ?_
  refine aw_callV (y := yX11_needPerson) (M2 := mX11_needPerson) (as := [vI x1]) (S := []) (t := 1) (d2 := d) (b2 := 1) (b3 := b - 1) cwX11_needPerson mlX11_162 imX11_needPerson seX11_needPerson (by decide +kernel) rfl (ci := 9) rfl (OB.at (ci := 9) (show shp 1 = (19, 0) by decide +kernel) (by decide)) (Nat.le_refl _) (by omega) rfl rfl (by simp [oneSlot]) (Nat.le_of_ble_eq_true rfl) (Ct.mono hF ?_)
  rintro o h' (⟨g1, rfl, rfl, hG⟩ | ⟨E, g, rfl, rfl, hG⟩)
  · show AW Γ l mX11_guard (d + 1) (b - 1) 5 [vR 1, vI x1, vI x2, vU] [] (stt g1) K
    refine aw_iload_n (k' := 2) (by decide +kernel) rfl ?_
    refine aw_iconst (n := 0) (by decide +kernel) ?_
    refine aw_bipush (n := 9) (by decide +kernel) (by decide +kernel) ?_
    refine aw_callS (y := yX11_needNumber) (M2 := mX11_needNumber) (as := [vI x2, vI 0, vI 9]) (S := []) (d2 := d) (b2 := 1) (b3 := b - 1 - 1) cwX11_needNumber mlX11_262 stX11_needNumber (by decide +kernel) rfl (Nat.le_refl _) (by omega) rfl rfl (by simp [oneSlot]) (Nat.le_of_ble_eq_true rfl) (Ct.mono hG ?_)
    rintro o h' (⟨g2, rfl, rfl, hG⟩ | ⟨E, g, rfl, rfl, hG⟩)
    · show AW Γ l mX11_guard (d + 1) (b - 1 - 1) 12 [vR 1, vI x1, vI x2, vU] [] (stt g2) K
      refine aw_aload_n (k' := 0) (by decide +kernel) rfl ?_
      refine aw_callV (y := yX11_rememberAct) (M2 := mX11_rememberAct) (as := []) (S := []) (t := 1) (d2 := d) (b2 := 0) (b3 := b - 1 - 1) cwX11_rememberAct mlX11_266 imX11_rememberAct seX11_rememberAct (by decide +kernel) rfl (ci := 9) rfl (OB.at (ci := 9) (show shp 1 = (19, 0) by decide +kernel) (by decide)) (Nat.le_refl _) (Nat.le_of_eq (Nat.zero_add _)) rfl rfl (by simp [oneSlot]) (Nat.le_of_ble_eq_true rfl) (Ct.mono hG ?_)
      rintro o h' (⟨g3, rfl, rfl, hG⟩ | ⟨E, g, rfl, rfl, hG⟩)
      · show AW Γ l mX11_guard (d + 1) (b - 1 - 1) 16 [vR 1, vI x1, vI x2, vU] [] (stt g3) K
        refine aw_aload_n (k' := 0) (by decide +kernel) rfl ?_
        refine gfX11_26 rfl (by decide +kernel) (OB.at (ci := 9) (show shp 1 = (19, 0) by decide +kernel) (by decide)) ?_
        refine AW.topR (show RC 1 2 = 8 by decide +kernel) ?_
        refine gfX11_175 rfl (by decide +kernel) (OB.at (ci := 2) (show shp 8 = (12, 0) by decide +kernel) (by decide)) ?_
        refine AW.topR (show RC 8 3 = 12 by decide +kernel) ?_
        refine aw_iload_n (k' := 1) (by decide +kernel) rfl ?_
        refine aw_callS (y := yX11_cell) (M2 := mX11_cell) (as := [vR 12, vI x1]) (S := []) (d2 := d) (b2 := 0) (b3 := b - 1 - 1) cwX11_cell mlX11_168 stX11_cell (by decide +kernel) rfl (Nat.le_refl _) (Nat.le_of_eq (Nat.zero_add _)) rfl rfl (by simp [oneSlot]) (Nat.le_of_ble_eq_true rfl) (c_cell (show (shp 12).1 = 0 by decide +kernel) ?_)
        show AW Γ l mX11_guard (d + 1) (b - 1 - 1) 27 [vR 1, vI x1, vI x2, vU] [vI (cel g3 12 x1)] (stt g3) K
        refine aw_istore_n (k' := 3) (by decide +kernel) (by decide) ?_
        show AW Γ l mX11_guard (d + 1) (b - 1 - 1) 28 [vR 1, vI x1, vI x2, vI (cel g3 12 x1)] [] (stt g3) K
        refine aw_aload_n (k' := 0) (by decide +kernel) rfl ?_
        refine gfX11_26 rfl (by decide +kernel) (OB.at (ci := 9) (show shp 1 = (19, 0) by decide +kernel) (by decide)) ?_
        refine AW.topR (show RC 1 2 = 8 by decide +kernel) ?_
        refine gfX11_175 rfl (by decide +kernel) (OB.at (ci := 2) (show shp 8 = (12, 0) by decide +kernel) (by decide)) ?_
        refine AW.topR (show RC 8 3 = 12 by decide +kernel) ?_
        refine aw_iload_n (k' := 1) (by decide +kernel) rfl ?_
        refine aw_iload_n (k' := 2) (by decide +kernel) rfl ?_
        refine aw_callS (y := yX11_put) (M2 := mX11_put) (as := [vR 12, vI x1, vI x2]) (S := []) (d2 := d) (b2 := 0) (b3 := b - 1 - 1) cwX11_put mlX11_290 stX11_put (by decide +kernel) rfl (Nat.le_refl _) (Nat.le_of_eq (Nat.zero_add _)) rfl rfl (by simp [oneSlot]) (Nat.le_of_ble_eq_true rfl) (c_put (show (shp 12).1 = 0 by decide +kernel) ?_)
        show AW Γ l mX11_guard (d + 1) (b - 1 - 1) 40 [vR 1, vI x1, vI x2, vI (cel g3 12 x1)] [] (stt (puc g3 12 x1 x2)) K
        refine aw_iload_n (k' := 3) (by decide +kernel) rfl ?_
        exact aw_iret (by decide +kernel) rfl hG
      · exact hG
    · exact hG
  · exact hG

set_option maxHeartbeats 1000000 in
theorem wpX11_noise {Γ : Cfg} {l : Launch} {d b : Nat} {g : GG} {K : Ou → HP → Prop} {x1 : Int} (hb : 1 ≤ b) (hF : Ct Γ l d 1 yX11_needNumber mX11_needNumber [vI x1, vI 0, vI 100] (stt g) (bV (fun g1 => Ct Γ l d 0 yX11_rememberAct mX11_rememberAct [vR 1] (stt g1) (bV (fun g2 => K (.inl (vI (g2 8 10))) (stt (upd2 g2 8 10 x1))) K)) K)) : Ct Γ l (d + 1) b yX11_noise mX11_noise [vR 1, vI x1] (stt g) K := by
  refine Ct.enter (L := [vR 1, vI x1, vU]) rfl rfl rfl (by decide +kernel) (by simp [oneSlot]) (Nat.le_of_ble_eq_true rfl) rfl ?_
  refine aw_iload_n (k' := 1) (by decide +kernel) rfl ?_
  refine aw_iconst (n := 0) (by decide +kernel) ?_
  refine aw_bipush (n := 100) (by decide +kernel) (by decide +kernel) ?_
  refine aw_callS (y := yX11_needNumber) (M2 := mX11_needNumber) (as := [vI x1, vI 0, vI 100]) (S := []) (d2 := d) (b2 := 1) (b3 := b - 1) cwX11_needNumber mlX11_262 stX11_needNumber (by decide +kernel) rfl (Nat.le_refl _) (by omega) rfl rfl (by simp [oneSlot]) (Nat.le_of_ble_eq_true rfl) (Ct.mono hF ?_)
  rintro o h' (⟨g1, rfl, rfl, hG⟩ | ⟨E, g, rfl, rfl, hG⟩)
  · show AW Γ l mX11_noise (d + 1) (b - 1) 7 [vR 1, vI x1, vU] [] (stt g1) K
    refine aw_aload_n (k' := 0) (by decide +kernel) rfl ?_
    refine aw_callV (y := yX11_rememberAct) (M2 := mX11_rememberAct) (as := []) (S := []) (t := 1) (d2 := d) (b2 := 0) (b3 := b - 1) cwX11_rememberAct mlX11_266 imX11_rememberAct seX11_rememberAct (by decide +kernel) rfl (ci := 9) rfl (OB.at (ci := 9) (show shp 1 = (19, 0) by decide +kernel) (by decide)) (Nat.le_refl _) (Nat.le_of_eq (Nat.zero_add _)) rfl rfl (by simp [oneSlot]) (Nat.le_of_ble_eq_true rfl) (Ct.mono hG ?_)
    rintro o h' (⟨g2, rfl, rfl, hG⟩ | ⟨E, g, rfl, rfl, hG⟩)
    · show AW Γ l mX11_noise (d + 1) (b - 1) 11 [vR 1, vI x1, vU] [] (stt g2) K
      refine aw_aload_n (k' := 0) (by decide +kernel) rfl ?_
      refine gfX11_26 rfl (by decide +kernel) (OB.at (ci := 9) (show shp 1 = (19, 0) by decide +kernel) (by decide)) ?_
      refine AW.topR (show RC 1 2 = 8 by decide +kernel) ?_
      refine gfX11_294 rfl (by decide +kernel) (OB.at (ci := 2) (show shp 8 = (12, 0) by decide +kernel) (by decide)) ?_
      refine aw_istore_n (k' := 2) (by decide +kernel) (by decide) ?_
      show AW Γ l mX11_noise (d + 1) (b - 1) 19 [vR 1, vI x1, vI (g2 8 10)] [] (stt g2) K
      refine aw_aload_n (k' := 0) (by decide +kernel) rfl ?_
      refine gfX11_26 rfl (by decide +kernel) (OB.at (ci := 9) (show shp 1 = (19, 0) by decide +kernel) (by decide)) ?_
      refine AW.topR (show RC 1 2 = 8 by decide +kernel) ?_
      refine aw_iload_n (k' := 1) (by decide +kernel) rfl ?_
      refine pfX11_294 rfl (by decide +kernel) (OB.at (ci := 2) (show shp 8 = (12, 0) by decide +kernel) (by decide)) ?_
      show AW Γ l mX11_noise (d + 1) (b - 1) 27 [vR 1, vI x1, vI (g2 8 10)] [] (stt (upd2 g2 8 10 x1)) K
      refine aw_iload_n (k' := 2) (by decide +kernel) rfl ?_
      exact aw_iret (by decide +kernel) rfl hG
    · exact hG
  · exact hG

set_option maxHeartbeats 1000000 in
theorem wpX11_turn {Γ : Cfg} {l : Launch} {d b : Nat} {g : GG} {K : Ou → HP → Prop} {x1 : Int} {x2 : Int} (hb : 2 ≤ b) (hF : Ct Γ l d 1 yX11_needDistance mX11_needDistance [vI x1] (stt g) (bV (fun g1 => Ct Γ l d 1 yX11_needNumber mX11_needNumber [vI x2, vI 0, vI 2] (stt g1) (bV (fun g2 => Ct Γ l d 0 yX11_rememberAct mX11_rememberAct [vR 1] (stt g2) (bV (fun g3 => K (.inl (vI (cel g3 15 x1))) (stt (puc g3 15 x1 x2))) K)) K)) K)) : Ct Γ l (d + 1) b yX11_turn mX11_turn [vR 1, vI x1, vI x2] (stt g) K := by
  refine Ct.enter (L := [vR 1, vI x1, vI x2, vU]) rfl rfl rfl (by decide +kernel) (by simp [oneSlot]) (Nat.le_of_ble_eq_true rfl) rfl ?_
  refine aw_iload_n (k' := 1) (by decide +kernel) rfl ?_
  refine aw_callS (y := yX11_needDistance) (M2 := mX11_needDistance) (as := [vI x1]) (S := []) (d2 := d) (b2 := 1) (b3 := b - 1) cwX11_needDistance mlX11_222 stX11_needDistance (by decide +kernel) rfl (Nat.le_refl _) (by omega) rfl rfl (by simp [oneSlot]) (Nat.le_of_ble_eq_true rfl) (Ct.mono hF ?_)
  rintro o h' (⟨g1, rfl, rfl, hG⟩ | ⟨E, g, rfl, rfl, hG⟩)
  · show AW Γ l mX11_turn (d + 1) (b - 1) 4 [vR 1, vI x1, vI x2, vU] [] (stt g1) K
    refine aw_iload_n (k' := 2) (by decide +kernel) rfl ?_
    refine aw_iconst (n := 0) (by decide +kernel) ?_
    refine aw_iconst (n := 2) (by decide +kernel) ?_
    refine aw_callS (y := yX11_needNumber) (M2 := mX11_needNumber) (as := [vI x2, vI 0, vI 2]) (S := []) (d2 := d) (b2 := 1) (b3 := b - 1 - 1) cwX11_needNumber mlX11_262 stX11_needNumber (by decide +kernel) rfl (Nat.le_refl _) (by omega) rfl rfl (by simp [oneSlot]) (Nat.le_of_ble_eq_true rfl) (Ct.mono hG ?_)
    rintro o h' (⟨g2, rfl, rfl, hG⟩ | ⟨E, g, rfl, rfl, hG⟩)
    · show AW Γ l mX11_turn (d + 1) (b - 1 - 1) 10 [vR 1, vI x1, vI x2, vU] [] (stt g2) K
      refine aw_aload_n (k' := 0) (by decide +kernel) rfl ?_
      refine aw_callV (y := yX11_rememberAct) (M2 := mX11_rememberAct) (as := []) (S := []) (t := 1) (d2 := d) (b2 := 0) (b3 := b - 1 - 1) cwX11_rememberAct mlX11_266 imX11_rememberAct seX11_rememberAct (by decide +kernel) rfl (ci := 9) rfl (OB.at (ci := 9) (show shp 1 = (19, 0) by decide +kernel) (by decide)) (Nat.le_refl _) (Nat.le_of_eq (Nat.zero_add _)) rfl rfl (by simp [oneSlot]) (Nat.le_of_ble_eq_true rfl) (Ct.mono hG ?_)
      rintro o h' (⟨g3, rfl, rfl, hG⟩ | ⟨E, g, rfl, rfl, hG⟩)
      · show AW Γ l mX11_turn (d + 1) (b - 1 - 1) 14 [vR 1, vI x1, vI x2, vU] [] (stt g3) K
        refine aw_aload_n (k' := 0) (by decide +kernel) rfl ?_
        refine gfX11_26 rfl (by decide +kernel) (OB.at (ci := 9) (show shp 1 = (19, 0) by decide +kernel) (by decide)) ?_
        refine AW.topR (show RC 1 2 = 8 by decide +kernel) ?_
        refine gfX11_225 rfl (by decide +kernel) (OB.at (ci := 2) (show shp 8 = (12, 0) by decide +kernel) (by decide)) ?_
        refine AW.topR (show RC 8 6 = 15 by decide +kernel) ?_
        refine aw_iload_n (k' := 1) (by decide +kernel) rfl ?_
        refine aw_callS (y := yX11_cell) (M2 := mX11_cell) (as := [vR 15, vI x1]) (S := []) (d2 := d) (b2 := 0) (b3 := b - 1 - 1) cwX11_cell mlX11_168 stX11_cell (by decide +kernel) rfl (Nat.le_refl _) (Nat.le_of_eq (Nat.zero_add _)) rfl rfl (by simp [oneSlot]) (Nat.le_of_ble_eq_true rfl) (c_cell (show (shp 15).1 = 0 by decide +kernel) ?_)
        show AW Γ l mX11_turn (d + 1) (b - 1 - 1) 25 [vR 1, vI x1, vI x2, vU] [vI (cel g3 15 x1)] (stt g3) K
        refine aw_istore_n (k' := 3) (by decide +kernel) (by decide) ?_
        show AW Γ l mX11_turn (d + 1) (b - 1 - 1) 26 [vR 1, vI x1, vI x2, vI (cel g3 15 x1)] [] (stt g3) K
        refine aw_aload_n (k' := 0) (by decide +kernel) rfl ?_
        refine gfX11_26 rfl (by decide +kernel) (OB.at (ci := 9) (show shp 1 = (19, 0) by decide +kernel) (by decide)) ?_
        refine AW.topR (show RC 1 2 = 8 by decide +kernel) ?_
        refine gfX11_225 rfl (by decide +kernel) (OB.at (ci := 2) (show shp 8 = (12, 0) by decide +kernel) (by decide)) ?_
        refine AW.topR (show RC 8 6 = 15 by decide +kernel) ?_
        refine aw_iload_n (k' := 1) (by decide +kernel) rfl ?_
        refine aw_iload_n (k' := 2) (by decide +kernel) rfl ?_
        refine aw_callS (y := yX11_put) (M2 := mX11_put) (as := [vR 15, vI x1, vI x2]) (S := []) (d2 := d) (b2 := 0) (b3 := b - 1 - 1) cwX11_put mlX11_290 stX11_put (by decide +kernel) rfl (Nat.le_refl _) (Nat.le_of_eq (Nat.zero_add _)) rfl rfl (by simp [oneSlot]) (Nat.le_of_ble_eq_true rfl) (c_put (show (shp 15).1 = 0 by decide +kernel) ?_)
        show AW Γ l mX11_turn (d + 1) (b - 1 - 1) 38 [vR 1, vI x1, vI x2, vI (cel g3 15 x1)] [] (stt (puc g3 15 x1 x2)) K
        refine aw_iload_n (k' := 3) (by decide +kernel) rfl ?_
        exact aw_iret (by decide +kernel) rfl hG
      · exact hG
    · exact hG
  · exact hG

set_option maxHeartbeats 1000000 in
theorem wpX11_repeat {Γ : Cfg} {l : Launch} {d b : Nat} {g : GG} {K : Ou → HP → Prop} {x1 : Int} {x2 : Int} (hb : 4 ≤ b) (hF : Ct Γ l d 1 yX11_needPerson mX11_needPerson [vR 1, vI x1] (stt g) (bV (fun g1 => Ct Γ l d 1 yX11_needPerson mX11_needPerson [vR 1, vI x2] (stt g1) (bV (fun g2 => Ct Γ l d 1 yX11_needTwo mX11_needTwo [vI x1, vI x2] (stt g2) (bV (fun g3 => Ct Γ l d 1 yX11_needState mX11_needState [vR 1, vI x1, vI 0] (stt g3) (bV (fun g4 => Ct Γ l d 0 yX11_rememberAct mX11_rememberAct [vR 1] (stt g4) (bV (fun g5 => Ct Γ l d 0 yX2_copyOath mX2_copyOath [vR 8, vI x1, vI x2] (stt g5) (bV (fun g6 => K (.inl (vI (cel g6 10 x1))) (stt g6)) K)) K)) K)) K)) K)) K)) : Ct Γ l (d + 1) b yX11_repeat mX11_repeat [vR 1, vI x1, vI x2] (stt g) K := by
  refine Ct.enter (L := [vR 1, vI x1, vI x2]) rfl rfl rfl (by decide +kernel) (by simp [oneSlot]) (Nat.le_of_ble_eq_true rfl) rfl ?_
  refine aw_aload_n (k' := 0) (by decide +kernel) rfl ?_
  refine aw_iload_n (k' := 1) (by decide +kernel) rfl ?_
  refine aw_callV (y := yX11_needPerson) (M2 := mX11_needPerson) (as := [vI x1]) (S := []) (t := 1) (d2 := d) (b2 := 1) (b3 := b - 1) cwX11_needPerson mlX11_162 imX11_needPerson seX11_needPerson (by decide +kernel) rfl (ci := 9) rfl (OB.at (ci := 9) (show shp 1 = (19, 0) by decide +kernel) (by decide)) (Nat.le_refl _) (by omega) rfl rfl (by simp [oneSlot]) (Nat.le_of_ble_eq_true rfl) (Ct.mono hF ?_)
  rintro o h' (⟨g1, rfl, rfl, hG⟩ | ⟨E, g, rfl, rfl, hG⟩)
  · show AW Γ l mX11_repeat (d + 1) (b - 1) 5 [vR 1, vI x1, vI x2] [] (stt g1) K
    refine aw_aload_n (k' := 0) (by decide +kernel) rfl ?_
    refine aw_iload_n (k' := 2) (by decide +kernel) rfl ?_
    refine aw_callV (y := yX11_needPerson) (M2 := mX11_needPerson) (as := [vI x2]) (S := []) (t := 1) (d2 := d) (b2 := 1) (b3 := b - 1 - 1) cwX11_needPerson mlX11_162 imX11_needPerson seX11_needPerson (by decide +kernel) rfl (ci := 9) rfl (OB.at (ci := 9) (show shp 1 = (19, 0) by decide +kernel) (by decide)) (Nat.le_refl _) (by omega) rfl rfl (by simp [oneSlot]) (Nat.le_of_ble_eq_true rfl) (Ct.mono hG ?_)
    rintro o h' (⟨g2, rfl, rfl, hG⟩ | ⟨E, g, rfl, rfl, hG⟩)
    · show AW Γ l mX11_repeat (d + 1) (b - 1 - 1) 10 [vR 1, vI x1, vI x2] [] (stt g2) K
      refine aw_iload_n (k' := 1) (by decide +kernel) rfl ?_
      refine aw_iload_n (k' := 2) (by decide +kernel) rfl ?_
      refine aw_callS (y := yX11_needTwo) (M2 := mX11_needTwo) (as := [vI x1, vI x2]) (S := []) (d2 := d) (b2 := 1) (b3 := b - 1 - 1 - 1) cwX11_needTwo mlX11_297 stX11_needTwo (by decide +kernel) rfl (Nat.le_refl _) (by omega) rfl rfl (by simp [oneSlot]) (Nat.le_of_ble_eq_true rfl) (Ct.mono hG ?_)
      rintro o h' (⟨g3, rfl, rfl, hG⟩ | ⟨E, g, rfl, rfl, hG⟩)
      · show AW Γ l mX11_repeat (d + 1) (b - 1 - 1 - 1) 15 [vR 1, vI x1, vI x2] [] (stt g3) K
        refine aw_aload_n (k' := 0) (by decide +kernel) rfl ?_
        refine aw_iload_n (k' := 1) (by decide +kernel) rfl ?_
        refine aw_iconst (n := 0) (by decide +kernel) ?_
        refine aw_callV (y := yX11_needState) (M2 := mX11_needState) (as := [vI x1, vI 0]) (S := []) (t := 1) (d2 := d) (b2 := 1) (b3 := b - 1 - 1 - 1 - 1) cwX11_needState mlX11_273 imX11_needState seX11_needState (by decide +kernel) rfl (ci := 9) rfl (OB.at (ci := 9) (show shp 1 = (19, 0) by decide +kernel) (by decide)) (Nat.le_refl _) (by omega) rfl rfl (by simp [oneSlot]) (Nat.le_of_ble_eq_true rfl) (Ct.mono hG ?_)
        rintro o h' (⟨g4, rfl, rfl, hG⟩ | ⟨E, g, rfl, rfl, hG⟩)
        · show AW Γ l mX11_repeat (d + 1) (b - 1 - 1 - 1 - 1) 21 [vR 1, vI x1, vI x2] [] (stt g4) K
          refine aw_aload_n (k' := 0) (by decide +kernel) rfl ?_
          refine aw_callV (y := yX11_rememberAct) (M2 := mX11_rememberAct) (as := []) (S := []) (t := 1) (d2 := d) (b2 := 0) (b3 := b - 1 - 1 - 1 - 1) cwX11_rememberAct mlX11_266 imX11_rememberAct seX11_rememberAct (by decide +kernel) rfl (ci := 9) rfl (OB.at (ci := 9) (show shp 1 = (19, 0) by decide +kernel) (by decide)) (Nat.le_refl _) (Nat.le_of_eq (Nat.zero_add _)) rfl rfl (by simp [oneSlot]) (Nat.le_of_ble_eq_true rfl) (Ct.mono hG ?_)
          rintro o h' (⟨g5, rfl, rfl, hG⟩ | ⟨E, g, rfl, rfl, hG⟩)
          · show AW Γ l mX11_repeat (d + 1) (b - 1 - 1 - 1 - 1) 25 [vR 1, vI x1, vI x2] [] (stt g5) K
            refine aw_aload_n (k' := 0) (by decide +kernel) rfl ?_
            refine gfX11_26 rfl (by decide +kernel) (OB.at (ci := 9) (show shp 1 = (19, 0) by decide +kernel) (by decide)) ?_
            refine AW.topR (show RC 1 2 = 8 by decide +kernel) ?_
            refine aw_iload_n (k' := 1) (by decide +kernel) rfl ?_
            refine aw_iload_n (k' := 2) (by decide +kernel) rfl ?_
            refine aw_callV (y := yX2_copyOath) (M2 := mX2_copyOath) (as := [vI x1, vI x2]) (S := []) (t := 8) (d2 := d) (b2 := 0) (b3 := b - 1 - 1 - 1 - 1) cwX2_copyOath mlX11_300 imX2_copyOath seX2_copyOath (by decide +kernel) rfl (ci := 2) rfl (OB.at (ci := 2) (show shp 8 = (12, 0) by decide +kernel) (by decide)) (Nat.le_refl _) (Nat.le_of_eq (Nat.zero_add _)) rfl rfl (by simp [oneSlot]) (Nat.le_of_ble_eq_true rfl) (Ct.mono hG ?_)
            rintro o h' (⟨g6, rfl, rfl, hG⟩ | ⟨E, g, rfl, rfl, hG⟩)
            · show AW Γ l mX11_repeat (d + 1) (b - 1 - 1 - 1 - 1) 34 [vR 1, vI x1, vI x2] [] (stt g6) K
              refine aw_aload_n (k' := 0) (by decide +kernel) rfl ?_
              refine gfX11_26 rfl (by decide +kernel) (OB.at (ci := 9) (show shp 1 = (19, 0) by decide +kernel) (by decide)) ?_
              refine AW.topR (show RC 1 2 = 8 by decide +kernel) ?_
              refine gfX11_165 rfl (by decide +kernel) (OB.at (ci := 2) (show shp 8 = (12, 0) by decide +kernel) (by decide)) ?_
              refine AW.topR (show RC 8 1 = 10 by decide +kernel) ?_
              refine aw_iload_n (k' := 1) (by decide +kernel) rfl ?_
              refine aw_callS (y := yX11_cell) (M2 := mX11_cell) (as := [vR 10, vI x1]) (S := []) (d2 := d) (b2 := 0) (b3 := b - 1 - 1 - 1 - 1) cwX11_cell mlX11_168 stX11_cell (by decide +kernel) rfl (Nat.le_refl _) (Nat.le_of_eq (Nat.zero_add _)) rfl rfl (by simp [oneSlot]) (Nat.le_of_ble_eq_true rfl) (c_cell (show (shp 10).1 = 0 by decide +kernel) ?_)
              show AW Γ l mX11_repeat (d + 1) (b - 1 - 1 - 1 - 1) 45 [vR 1, vI x1, vI x2] [vI (cel g6 10 x1)] (stt g6) K
              exact aw_iret (by decide +kernel) rfl hG
            · exact hG
          · exact hG
        · exact hG
      · exact hG
    · exact hG
  · exact hG

set_option maxHeartbeats 1000000 in
theorem wpX11_actAt {Γ : Cfg} {l : Launch} {d b : Nat} {g : GG} {K : Ou → HP → Prop} {x1 : Int} (hF : (wr (iRem ((g 1 14) + x1) 12) < 0 → K (.inl (vR 0)) (stt g)) ∧ (¬ (wr (iRem ((g 1 14) + x1) 12) < 0) → (12 ≤ wr (iRem ((g 1 14) + x1) 12) → K (.inl (vR 0)) (stt g)) ∧ (¬ (12 ≤ wr (iRem ((g 1 14) + x1) 12)) → (0 ≤ wr (iRem ((g 1 14) + x1) 12) ∧ wr (iRem ((g 1 14) + x1) 12) < 12) ∧ (K (.inl (vR (RC 44 (wr (iRem ((g 1 14) + x1) 12))))) (stt g))))) : Ct Γ l d b yX11_actAt mX11_actAt [vR 1, vI x1] (stt g) K := by
  refine Ct.enter (L := [vR 1, vI x1, vU]) rfl rfl rfl (by decide +kernel) (by simp [oneSlot]) (Nat.le_of_ble_eq_true rfl) rfl ?_
  refine aw_aload_n (k' := 0) (by decide +kernel) rfl ?_
  refine gfX11_89 rfl (by decide +kernel) (OB.at (ci := 9) (show shp 1 = (19, 0) by decide +kernel) (by decide)) ?_
  refine aw_iload_n (k' := 1) (by decide +kernel) rfl ?_
  refine aw_iadd (by decide +kernel) ?_
  refine aw_bipush (n := 12) (by decide +kernel) (by decide +kernel) ?_
  refine aw_irem (by decide +kernel) (by decide +kernel) ?_
  refine aw_istore_n (k' := 2) (by decide +kernel) (by decide) ?_
  show AW Γ l mX11_actAt d b 10 [vR 1, vI x1, vI (iRem ((g 1 14) + x1) 12)] [] (stt g) K
  refine aw_iload_n (k' := 2) (by decide +kernel) rfl ?_
  refine ax_if_lt (off := 21) (tgt := 32) (x' := wr (iRem ((g 1 14) + x1) 12)) (by decide +kernel) (by decide) rfl (fun hc => ?_) (fun hc => ?_)
  · have hF := hF.1 hc
    refine aw_null (by decide +kernel) ?_
    exact aw_aret (by decide +kernel) rfl hF
  · have hF := hF.2 hc
    refine aw_iload_n (k' := 2) (by decide +kernel) rfl ?_
    refine aw_aload_n (k' := 0) (by decide +kernel) rfl ?_
    refine gfX11_49 rfl (by decide +kernel) (OB.at (ci := 9) (show shp 1 = (19, 0) by decide +kernel) (by decide)) ?_
    refine AW.topR (show RC 1 8 = 44 by decide +kernel) ?_
    refine aw_alen (k := 4) (n := 12) (by decide +kernel) (by decide) (isA_lit (show shp 44 = (4, 12) by decide +kernel) (by decide)) ?_
    show AW Γ l mX11_actAt d b 20 [vR 1, vI x1, vI (iRem ((g 1 14) + x1) 12)] [vI 12, vI (iRem ((g 1 14) + x1) 12)] (stt g) K
    refine ax_icmp_ge (off := 12) (tgt := 32) (x' := wr (iRem ((g 1 14) + x1) 12)) (y' := 12) (by decide +kernel) (by decide) rfl (by decide +kernel) (fun hc => ?_) (fun hc => ?_)
    · have hF := hF.1 hc
      refine aw_null (by decide +kernel) ?_
      exact aw_aret (by decide +kernel) rfl hF
    · have hF := hF.2 hc
      refine aw_aload_n (k' := 0) (by decide +kernel) rfl ?_
      refine gfX11_49 rfl (by decide +kernel) (OB.at (ci := 9) (show shp 1 = (19, 0) by decide +kernel) (by decide)) ?_
      refine AW.topR (show RC 1 8 = 44 by decide +kernel) ?_
      refine aw_iload_n (k' := 2) (by decide +kernel) rfl ?_
      refine ax_aald4 (i := wr (iRem ((g 1 14) + x1) 12)) (n := 12) (by decide +kernel) (isA_lit (show shp 44 = (4, 12) by decide +kernel) (by decide)) rfl hF.1 ?_
      replace hF := hF.2
      refine aw_goto (off := 4) (tgt := 33) (by decide +kernel) (by decide) ?_
      exact aw_aret (by decide +kernel) rfl hF

set_option maxHeartbeats 1000000 in
theorem wpX11_rememberAct {Γ : Cfg} {l : Launch} {d b : Nat} {g : GG} {K : Ou → HP → Prop}  (hF : (¬ wr (g 1 15) = 12 → Ct Γ l d 0 yX11_actAt mX11_actAt [vR 1, vI (g 1 15)] (stt g) (bR (fun v1 g1 => (v1 = 0 → K (.inl vU) (stt g1)) ∧ (¬ (v1 = 0) → (HI v1) ∧ (Ct Γ l d 0 yX2_copy mX2_copy [vR v1, vR 8] (stt g1) (bV (fun g2 => K (.inl vU) (stt (upd2 g2 1 15 ((g2 1 15) + 1)))) K)))) K)) ∧ (¬ (¬ wr (g 1 15) = 12) → (∀ g3 : GG, g3 = upd2 g 1 14 (iRem ((g 1 14) + 1) 12) → Ct Γ l d 0 yX11_actAt mX11_actAt [vR 1, vI ((upd2 g3 1 15 ((g3 1 15) - 1)) 1 15)] (stt (upd2 g3 1 15 ((g3 1 15) - 1))) (bR (fun v2 g4 => (v2 = 0 → K (.inl vU) (stt g4)) ∧ (¬ (v2 = 0) → (HI v2) ∧ (Ct Γ l d 0 yX2_copy mX2_copy [vR v2, vR 8] (stt g4) (bV (fun g5 => K (.inl vU) (stt (upd2 g5 1 15 ((g5 1 15) + 1)))) K)))) K)))) : Ct Γ l (d + 1) b yX11_rememberAct mX11_rememberAct [vR 1] (stt g) K := by
  refine Ct.enter (L := [vR 1, vU]) rfl rfl rfl (by decide +kernel) (by simp [oneSlot]) (Nat.le_of_ble_eq_true rfl) rfl ?_
  refine aw_aload_n (k' := 0) (by decide +kernel) rfl ?_
  refine gfX11_93 rfl (by decide +kernel) (OB.at (ci := 9) (show shp 1 = (19, 0) by decide +kernel) (by decide)) ?_
  refine aw_bipush (n := 12) (by decide +kernel) (by decide +kernel) ?_
  refine ax_icmp_ne (off := 26) (tgt := 32) (x' := wr (g 1 15)) (y' := 12) (by decide +kernel) (by decide) rfl (by decide +kernel) (fun hc => ?_) (fun hc => ?_)
  · have hF := hF.1 hc
    refine aw_aload_n (k' := 0) (by decide +kernel) rfl ?_
    refine aw_aload_n (k' := 0) (by decide +kernel) rfl ?_
    refine gfX11_93 rfl (by decide +kernel) (OB.at (ci := 9) (show shp 1 = (19, 0) by decide +kernel) (by decide)) ?_
    refine aw_callV (y := yX11_actAt) (M2 := mX11_actAt) (as := [vI (g 1 15)]) (S := []) (t := 1) (d2 := d) (b2 := 0) (b3 := b) cwX11_actAt mlX11_303 imX11_actAt seX11_actAt (by decide +kernel) rfl (ci := 9) rfl (OB.at (ci := 9) (show shp 1 = (19, 0) by decide +kernel) (by decide)) (Nat.le_refl _) (Nat.le_of_eq (Nat.zero_add _)) rfl rfl (by simp [oneSlot]) (Nat.le_of_ble_eq_true rfl) (Ct.mono hF ?_)
    rintro o h' (⟨v1, g1, rfl, rfl, hG⟩ | ⟨E, g, rfl, rfl, hG⟩)
    · show AW Γ l mX11_rememberAct (d + 1) b 40 [vR 1, vU] [vR v1] (stt g1) K
      refine aw_astore_n (k' := 1) (by decide +kernel) (by decide) ?_
      show AW Γ l mX11_rememberAct (d + 1) b 41 [vR 1, vR v1] [] (stt g1) K
      refine aw_aload_n (k' := 1) (by decide +kernel) rfl ?_
      refine aw_ifnull (off := 21) (tgt := 63) (by decide +kernel) (by decide) (fun hc => ?_) (fun hc => ?_)
      · have hG := hG.1 hc
        exact aw_vret (by decide +kernel) rfl hG
      · have hG := hG.2 hc
        refine aw_aload_n (k' := 1) (by decide +kernel) rfl ?_
        refine aw_aload_n (k' := 0) (by decide +kernel) rfl ?_
        refine gfX11_26 rfl (by decide +kernel) (OB.at (ci := 9) (show shp 1 = (19, 0) by decide +kernel) (by decide)) ?_
        refine AW.topR (show RC 1 2 = 8 by decide +kernel) ?_
        refine aw_callV (y := yX2_copy) (M2 := mX2_copy) (as := [vR 8]) (S := []) (t := v1) (d2 := d) (b2 := 0) (b3 := b) cwX2_copy mlX11_113 imX2_copy seX2_copy (by decide +kernel) rfl (ci := 2) rfl (OB.at (hG.1).ob (by decide)) (Nat.le_refl _) (Nat.le_of_eq (Nat.zero_add _)) rfl rfl (by simp [oneSlot]) (Nat.le_of_ble_eq_true rfl) (Ct.mono hG.2 ?_)
        rintro o h' (⟨g2, rfl, rfl, hG⟩ | ⟨E, g, rfl, rfl, hG⟩)
        · show AW Γ l mX11_rememberAct (d + 1) b 53 [vR 1, vR v1] [] (stt g2) K
          refine aw_aload_n (k' := 0) (by decide +kernel) rfl ?_
          refine aw_dup (by decide +kernel) trivial ?_
          refine gfX11_93 rfl (by decide +kernel) (OB.at (ci := 9) (show shp 1 = (19, 0) by decide +kernel) (by decide)) ?_
          refine aw_iconst (n := 1) (by decide +kernel) ?_
          refine aw_iadd (by decide +kernel) ?_
          refine pfX11_93 rfl (by decide +kernel) (OB.at (ci := 9) (show shp 1 = (19, 0) by decide +kernel) (by decide)) ?_
          show AW Γ l mX11_rememberAct (d + 1) b 63 [vR 1, vR v1] [] (stt (upd2 g2 1 15 ((g2 1 15) + 1))) K
          exact aw_vret (by decide +kernel) rfl hG
        · exact hG
    · exact hG
  · have hF := hF.2 hc
    refine aw_aload_n (k' := 0) (by decide +kernel) rfl ?_
    refine aw_aload_n (k' := 0) (by decide +kernel) rfl ?_
    refine gfX11_89 rfl (by decide +kernel) (OB.at (ci := 9) (show shp 1 = (19, 0) by decide +kernel) (by decide)) ?_
    refine aw_iconst (n := 1) (by decide +kernel) ?_
    refine aw_iadd (by decide +kernel) ?_
    refine aw_bipush (n := 12) (by decide +kernel) (by decide +kernel) ?_
    refine aw_irem (by decide +kernel) (by decide +kernel) ?_
    refine pfX11_89 rfl (by decide +kernel) (OB.at (ci := 9) (show shp 1 = (19, 0) by decide +kernel) (by decide)) ?_
    show AW Γ l mX11_rememberAct (d + 1) b 22 [vR 1, vU] [] (stt (upd2 g 1 14 (iRem ((g 1 14) + 1) 12))) K
    generalize eg3 : upd2 g 1 14 (iRem ((g 1 14) + 1) 12) = g3
    replace hF := hF g3 eg3.symm
    refine aw_aload_n (k' := 0) (by decide +kernel) rfl ?_
    refine aw_dup (by decide +kernel) trivial ?_
    refine gfX11_93 rfl (by decide +kernel) (OB.at (ci := 9) (show shp 1 = (19, 0) by decide +kernel) (by decide)) ?_
    refine aw_iconst (n := 1) (by decide +kernel) ?_
    refine aw_isub (by decide +kernel) ?_
    refine pfX11_93 rfl (by decide +kernel) (OB.at (ci := 9) (show shp 1 = (19, 0) by decide +kernel) (by decide)) ?_
    show AW Γ l mX11_rememberAct (d + 1) b 32 [vR 1, vU] [] (stt (upd2 g3 1 15 ((g3 1 15) - 1))) K
    refine aw_aload_n (k' := 0) (by decide +kernel) rfl ?_
    refine aw_aload_n (k' := 0) (by decide +kernel) rfl ?_
    refine gfX11_93 rfl (by decide +kernel) (OB.at (ci := 9) (show shp 1 = (19, 0) by decide +kernel) (by decide)) ?_
    refine aw_callV (y := yX11_actAt) (M2 := mX11_actAt) (as := [vI ((upd2 g3 1 15 ((g3 1 15) - 1)) 1 15)]) (S := []) (t := 1) (d2 := d) (b2 := 0) (b3 := b) cwX11_actAt mlX11_303 imX11_actAt seX11_actAt (by decide +kernel) rfl (ci := 9) rfl (OB.at (ci := 9) (show shp 1 = (19, 0) by decide +kernel) (by decide)) (Nat.le_refl _) (Nat.le_of_eq (Nat.zero_add _)) rfl rfl (by simp [oneSlot]) (Nat.le_of_ble_eq_true rfl) (Ct.mono hF ?_)
    rintro o h' (⟨v2, g4, rfl, rfl, hG⟩ | ⟨E, g, rfl, rfl, hG⟩)
    · show AW Γ l mX11_rememberAct (d + 1) b 40 [vR 1, vU] [vR v2] (stt g4) K
      refine aw_astore_n (k' := 1) (by decide +kernel) (by decide) ?_
      show AW Γ l mX11_rememberAct (d + 1) b 41 [vR 1, vR v2] [] (stt g4) K
      refine aw_aload_n (k' := 1) (by decide +kernel) rfl ?_
      refine aw_ifnull (off := 21) (tgt := 63) (by decide +kernel) (by decide) (fun hc => ?_) (fun hc => ?_)
      · have hG := hG.1 hc
        exact aw_vret (by decide +kernel) rfl hG
      · have hG := hG.2 hc
        refine aw_aload_n (k' := 1) (by decide +kernel) rfl ?_
        refine aw_aload_n (k' := 0) (by decide +kernel) rfl ?_
        refine gfX11_26 rfl (by decide +kernel) (OB.at (ci := 9) (show shp 1 = (19, 0) by decide +kernel) (by decide)) ?_
        refine AW.topR (show RC 1 2 = 8 by decide +kernel) ?_
        refine aw_callV (y := yX2_copy) (M2 := mX2_copy) (as := [vR 8]) (S := []) (t := v2) (d2 := d) (b2 := 0) (b3 := b) cwX2_copy mlX11_113 imX2_copy seX2_copy (by decide +kernel) rfl (ci := 2) rfl (OB.at (hG.1).ob (by decide)) (Nat.le_refl _) (Nat.le_of_eq (Nat.zero_add _)) rfl rfl (by simp [oneSlot]) (Nat.le_of_ble_eq_true rfl) (Ct.mono hG.2 ?_)
        rintro o h' (⟨g5, rfl, rfl, hG⟩ | ⟨E, g, rfl, rfl, hG⟩)
        · show AW Γ l mX11_rememberAct (d + 1) b 53 [vR 1, vR v2] [] (stt g5) K
          refine aw_aload_n (k' := 0) (by decide +kernel) rfl ?_
          refine aw_dup (by decide +kernel) trivial ?_
          refine gfX11_93 rfl (by decide +kernel) (OB.at (ci := 9) (show shp 1 = (19, 0) by decide +kernel) (by decide)) ?_
          refine aw_iconst (n := 1) (by decide +kernel) ?_
          refine aw_iadd (by decide +kernel) ?_
          refine pfX11_93 rfl (by decide +kernel) (OB.at (ci := 9) (show shp 1 = (19, 0) by decide +kernel) (by decide)) ?_
          show AW Γ l mX11_rememberAct (d + 1) b 63 [vR 1, vR v2] [] (stt (upd2 g5 1 15 ((g5 1 15) + 1))) K
          exact aw_vret (by decide +kernel) rfl hG
        · exact hG
    · exact hG

set_option maxHeartbeats 1000000 in
theorem wpX11_order {Γ : Cfg} {l : Launch} {d b : Nat} {g : GG} {K : Ou → HP → Prop} {x1 : Int} {x2 : Int} (hb : 1 ≤ b) (hF : Ct Γ l d 1 yX11_needPerson mX11_needPerson [vR 1, vI x1] (stt g) (bV (fun g1 => Ct Γ l d 0 yX5_find mX5_find [vR 161, vR 8, vI x1] (stt g1) (bI (fun v1 g2 => (¬ wr v1 = 0 → (¬ wr x2 = -1 → (wr x2 < 0 → K (.inl (vI (-1))) (stt g2)) ∧ (¬ (wr x2 < 0) → (wr (g2 161 7) ≤ wr x2 → K (.inl (vI (-1))) (stt g2)) ∧ (¬ (wr (g2 161 7) ≤ wr x2) → K (.inl (vI (cel g2 166 x2))) (stt g2)))) ∧ (¬ (¬ wr x2 = -1) → K (.inl (vI (g2 161 8))) (stt g2))) ∧ (¬ (¬ wr v1 = 0) → K (.inl (vI (-1))) (stt g2))) K)) K)) : Ct Γ l (d + 1) b yX11_order mX11_order [vR 1, vI x1, vI x2] (stt g) K := by
  refine Ct.enter (L := [vR 1, vI x1, vI x2]) rfl rfl rfl (by decide +kernel) (by simp [oneSlot]) (Nat.le_of_ble_eq_true rfl) rfl ?_
  refine aw_aload_n (k' := 0) (by decide +kernel) rfl ?_
  refine aw_iload_n (k' := 1) (by decide +kernel) rfl ?_
  refine aw_callV (y := yX11_needPerson) (M2 := mX11_needPerson) (as := [vI x1]) (S := []) (t := 1) (d2 := d) (b2 := 1) (b3 := b - 1) cwX11_needPerson mlX11_162 imX11_needPerson seX11_needPerson (by decide +kernel) rfl (ci := 9) rfl (OB.at (ci := 9) (show shp 1 = (19, 0) by decide +kernel) (by decide)) (Nat.le_refl _) (by omega) rfl rfl (by simp [oneSlot]) (Nat.le_of_ble_eq_true rfl) (Ct.mono hF ?_)
  rintro o h' (⟨g1, rfl, rfl, hG⟩ | ⟨E, g, rfl, rfl, hG⟩)
  · show AW Γ l mX11_order (d + 1) (b - 1) 5 [vR 1, vI x1, vI x2] [] (stt g1) K
    refine aw_aload_n (k' := 0) (by decide +kernel) rfl ?_
    refine gfX11_74 rfl (by decide +kernel) (OB.at (ci := 9) (show shp 1 = (19, 0) by decide +kernel) (by decide)) ?_
    refine AW.topR (show RC 1 11 = 161 by decide +kernel) ?_
    refine aw_aload_n (k' := 0) (by decide +kernel) rfl ?_
    refine gfX11_26 rfl (by decide +kernel) (OB.at (ci := 9) (show shp 1 = (19, 0) by decide +kernel) (by decide)) ?_
    refine AW.topR (show RC 1 2 = 8 by decide +kernel) ?_
    refine aw_iload_n (k' := 1) (by decide +kernel) rfl ?_
    refine aw_callV (y := yX5_find) (M2 := mX5_find) (as := [vR 8, vI x1]) (S := []) (t := 161) (d2 := d) (b2 := 0) (b3 := b - 1) cwX5_find mlX11_307 imX5_find seX5_find (by decide +kernel) rfl (ci := 4) rfl (OB.at (ci := 4) (show shp 161 = (14, 0) by decide +kernel) (by decide)) (Nat.le_refl _) (Nat.le_of_eq (Nat.zero_add _)) rfl rfl (by simp [oneSlot]) (Nat.le_of_ble_eq_true rfl) (Ct.mono hG ?_)
    rintro o h' (⟨v1, g2, rfl, rfl, hG⟩ | ⟨E, g, rfl, rfl, hG⟩)
    · show AW Γ l mX11_order (d + 1) (b - 1) 17 [vR 1, vI x1, vI x2] [vI v1] (stt g2) K
      refine ax_if_ne (off := 5) (tgt := 22) (x' := wr v1) (by decide +kernel) (by decide) rfl (fun hc => ?_) (fun hc => ?_)
      · have hG := hG.1 hc
        refine aw_iload_n (k' := 2) (by decide +kernel) rfl ?_
        refine aw_iconst (n := -1) (by decide +kernel) ?_
        refine ax_icmp_ne (off := 11) (tgt := 35) (x' := wr x2) (y' := -1) (by decide +kernel) (by decide) rfl (by decide +kernel) (fun hc => ?_) (fun hc => ?_)
        · have hG := hG.1 hc
          refine aw_iload_n (k' := 2) (by decide +kernel) rfl ?_
          refine ax_if_lt (off := 28) (tgt := 64) (x' := wr x2) (by decide +kernel) (by decide) rfl (fun hc => ?_) (fun hc => ?_)
          · have hG := hG.1 hc
            refine aw_iconst (n := -1) (by decide +kernel) ?_
            exact aw_iret (by decide +kernel) rfl hG
          · have hG := hG.2 hc
            refine aw_iload_n (k' := 2) (by decide +kernel) rfl ?_
            refine aw_aload_n (k' := 0) (by decide +kernel) rfl ?_
            refine gfX11_74 rfl (by decide +kernel) (OB.at (ci := 9) (show shp 1 = (19, 0) by decide +kernel) (by decide)) ?_
            refine AW.topR (show RC 1 11 = 161 by decide +kernel) ?_
            refine gfX11_314 rfl (by decide +kernel) (OB.at (ci := 4) (show shp 161 = (14, 0) by decide +kernel) (by decide)) ?_
            refine ax_icmp_ge (off := 17) (tgt := 64) (x' := wr x2) (y' := wr (g2 161 7)) (by decide +kernel) (by decide) rfl rfl (fun hc => ?_) (fun hc => ?_)
            · have hG := hG.1 hc
              refine aw_iconst (n := -1) (by decide +kernel) ?_
              exact aw_iret (by decide +kernel) rfl hG
            · have hG := hG.2 hc
              refine aw_aload_n (k' := 0) (by decide +kernel) rfl ?_
              refine gfX11_74 rfl (by decide +kernel) (OB.at (ci := 9) (show shp 1 = (19, 0) by decide +kernel) (by decide)) ?_
              refine AW.topR (show RC 1 11 = 161 by decide +kernel) ?_
              refine gfX11_317 rfl (by decide +kernel) (OB.at (ci := 4) (show shp 161 = (14, 0) by decide +kernel) (by decide)) ?_
              refine AW.topR (show RC 161 5 = 166 by decide +kernel) ?_
              refine aw_iload_n (k' := 2) (by decide +kernel) rfl ?_
              refine aw_callS (y := yX11_cell) (M2 := mX11_cell) (as := [vR 166, vI x2]) (S := []) (d2 := d) (b2 := 0) (b3 := b - 1) cwX11_cell mlX11_168 stX11_cell (by decide +kernel) rfl (Nat.le_refl _) (Nat.le_of_eq (Nat.zero_add _)) rfl rfl (by simp [oneSlot]) (Nat.le_of_ble_eq_true rfl) (c_cell (show (shp 166).1 = 0 by decide +kernel) ?_)
              show AW Γ l mX11_order (d + 1) (b - 1) 61 [vR 1, vI x1, vI x2] [vI (cel g2 166 x2)] (stt g2) K
              refine aw_goto (off := 4) (tgt := 65) (by decide +kernel) (by decide) ?_
              exact aw_iret (by decide +kernel) rfl hG
        · have hG := hG.2 hc
          refine aw_aload_n (k' := 0) (by decide +kernel) rfl ?_
          refine gfX11_74 rfl (by decide +kernel) (OB.at (ci := 9) (show shp 1 = (19, 0) by decide +kernel) (by decide)) ?_
          refine AW.topR (show RC 1 11 = 161 by decide +kernel) ?_
          refine gfX11_311 rfl (by decide +kernel) (OB.at (ci := 4) (show shp 161 = (14, 0) by decide +kernel) (by decide)) ?_
          exact aw_iret (by decide +kernel) rfl hG
      · have hG := hG.2 hc
        refine aw_iconst (n := -1) (by decide +kernel) ?_
        exact aw_iret (by decide +kernel) rfl hG
    · exact hG
  · exact hG

set_option maxHeartbeats 1000000 in
theorem wpX11_fence {Γ : Cfg} {l : Launch} {d b : Nat} {g : GG} {K : Ou → HP → Prop} {x1 : Int} {x2 : Int} (hb : 2 ≤ b) (hF : Ct Γ l d 1 yX11_needPerson mX11_needPerson [vR 1, vI x1] (stt g) (bV (fun g1 => Ct Γ l d 1 yX11_needNumber mX11_needNumber [vI x2, vI 0, vI 100] (stt g1) (bV (fun g2 => Ct Γ l d 0 yX2_hoursNeed mX2_hoursNeed [vR 8, vI x1] (stt g2) (bI (fun v1 g3 => AW Γ l mX11_fence (d + 1) (b - 1 - 1) 24 [vR 1, vI x1, vI x2, vI v1, vI 0, vU, vU] [] (stt g3) K) K)) K)) K)) : Ct Γ l (d + 1) b yX11_fence mX11_fence [vR 1, vI x1, vI x2] (stt g) K := by
  refine Ct.enter (L := [vR 1, vI x1, vI x2, vU, vU, vU, vU]) rfl rfl rfl (by decide +kernel) (by simp [oneSlot]) (Nat.le_of_ble_eq_true rfl) rfl ?_
  refine aw_aload_n (k' := 0) (by decide +kernel) rfl ?_
  refine aw_iload_n (k' := 1) (by decide +kernel) rfl ?_
  refine aw_callV (y := yX11_needPerson) (M2 := mX11_needPerson) (as := [vI x1]) (S := []) (t := 1) (d2 := d) (b2 := 1) (b3 := b - 1) cwX11_needPerson mlX11_162 imX11_needPerson seX11_needPerson (by decide +kernel) rfl (ci := 9) rfl (OB.at (ci := 9) (show shp 1 = (19, 0) by decide +kernel) (by decide)) (Nat.le_refl _) (by omega) rfl rfl (by simp [oneSlot]) (Nat.le_of_ble_eq_true rfl) (Ct.mono hF ?_)
  rintro o h' (⟨g1, rfl, rfl, hG⟩ | ⟨E, g, rfl, rfl, hG⟩)
  · show AW Γ l mX11_fence (d + 1) (b - 1) 5 [vR 1, vI x1, vI x2, vU, vU, vU, vU] [] (stt g1) K
    refine aw_iload_n (k' := 2) (by decide +kernel) rfl ?_
    refine aw_iconst (n := 0) (by decide +kernel) ?_
    refine aw_bipush (n := 100) (by decide +kernel) (by decide +kernel) ?_
    refine aw_callS (y := yX11_needNumber) (M2 := mX11_needNumber) (as := [vI x2, vI 0, vI 100]) (S := []) (d2 := d) (b2 := 1) (b3 := b - 1 - 1) cwX11_needNumber mlX11_262 stX11_needNumber (by decide +kernel) rfl (Nat.le_refl _) (by omega) rfl rfl (by simp [oneSlot]) (Nat.le_of_ble_eq_true rfl) (Ct.mono hG ?_)
    rintro o h' (⟨g2, rfl, rfl, hG⟩ | ⟨E, g, rfl, rfl, hG⟩)
    · show AW Γ l mX11_fence (d + 1) (b - 1 - 1) 12 [vR 1, vI x1, vI x2, vU, vU, vU, vU] [] (stt g2) K
      refine aw_aload_n (k' := 0) (by decide +kernel) rfl ?_
      refine gfX11_26 rfl (by decide +kernel) (OB.at (ci := 9) (show shp 1 = (19, 0) by decide +kernel) (by decide)) ?_
      refine AW.topR (show RC 1 2 = 8 by decide +kernel) ?_
      refine aw_iload_n (k' := 1) (by decide +kernel) rfl ?_
      refine aw_callV (y := yX2_hoursNeed) (M2 := mX2_hoursNeed) (as := [vI x1]) (S := []) (t := 8) (d2 := d) (b2 := 0) (b3 := b - 1 - 1) cwX2_hoursNeed mlX11_195 imX2_hoursNeed seX2_hoursNeed (by decide +kernel) rfl (ci := 2) rfl (OB.at (ci := 2) (show shp 8 = (12, 0) by decide +kernel) (by decide)) (Nat.le_refl _) (Nat.le_of_eq (Nat.zero_add _)) rfl rfl (by simp [oneSlot]) (Nat.le_of_ble_eq_true rfl) (Ct.mono hG ?_)
      rintro o h' (⟨v1, g3, rfl, rfl, hG⟩ | ⟨E, g, rfl, rfl, hG⟩)
      · show AW Γ l mX11_fence (d + 1) (b - 1 - 1) 20 [vR 1, vI x1, vI x2, vU, vU, vU, vU] [vI v1] (stt g3) K
        refine aw_istore_n (k' := 3) (by decide +kernel) (by decide) ?_
        show AW Γ l mX11_fence (d + 1) (b - 1 - 1) 21 [vR 1, vI x1, vI x2, vI v1, vU, vU, vU] [] (stt g3) K
        refine aw_iconst (n := 0) (by decide +kernel) ?_
        refine aw_istore (i := 4) (by decide +kernel) (by decide) ?_
        show AW Γ l mX11_fence (d + 1) (b - 1 - 1) 24 [vR 1, vI x1, vI x2, vI v1, vI 0, vU, vU] [] (stt g3) K
        exact hG
      · exact hG
    · exact hG
  · exact hG
set_option maxHeartbeats 1000000 in
theorem wpX11_fence_24 {Γ : Cfg} {l : Launch} {d b : Nat} {g : GG} {K : Ou → HP → Prop} {x1 : Int} {x2 : Int} {y3 : Int} {y4 : Int} (hb : 2 ≤ b) (hF : (9 < wr y4 → K (.inl (vI (-1))) (stt g)) ∧ (¬ (9 < wr y4) → AW Γ l mX11_fence (d + 1) b 39 [vR 1, vI x1, vI x2, vI y3, vI y4, vI 10000, vI 0] [] (stt g) K)) : AW Γ l mX11_fence (d + 1) b 24 [vR 1, vI x1, vI x2, vI y3, vI y4, vU, vU] [] (stt g) K := by
  refine aw_iload (i := 4) (by decide +kernel) rfl ?_
  refine aw_bipush (n := 9) (by decide +kernel) (by decide +kernel) ?_
  refine ax_icmp_gt (off := 54) (tgt := 82) (x' := wr y4) (y' := 9) (by decide +kernel) (by decide) rfl (by decide +kernel) (fun hc => ?_) (fun hc => ?_)
  · have hF := hF.1 hc
    refine aw_iconst (n := -1) (by decide +kernel) ?_
    exact aw_iret (by decide +kernel) rfl hF
  · have hF := hF.2 hc
    refine aw_sipush (n := 10000) (by decide +kernel) (by decide +kernel) ?_
    refine aw_istore (i := 5) (by decide +kernel) (by decide) ?_
    show AW Γ l mX11_fence (d + 1) b 36 [vR 1, vI x1, vI x2, vI y3, vI y4, vI 10000, vU] [] (stt g) K
    refine aw_iconst (n := 0) (by decide +kernel) ?_
    refine aw_istore (i := 6) (by decide +kernel) (by decide) ?_
    show AW Γ l mX11_fence (d + 1) b 39 [vR 1, vI x1, vI x2, vI y3, vI y4, vI 10000, vI 0] [] (stt g) K
    exact hF
set_option maxHeartbeats 1000000 in
theorem wpX11_fence_39 {Γ : Cfg} {l : Launch} {d b : Nat} {g : GG} {K : Ou → HP → Prop} {x1 : Int} {x2 : Int} {y3 : Int} {y4 : Int} {y5 : Int} {y6 : Int} (hb : 2 ≤ b) (hF : (wr y3 ≤ wr y6 → (wr y5 < wr (100 * x2) → AW Γ l mX11_fence (d + 1) b 24 [vR 1, vI x1, vI x2, vI y3, vI (y4 + 1), vI y5, vI y6] [] (stt g) K) ∧ (¬ (wr y5 < wr (100 * x2)) → K (.inl (vI y4)) (stt g))) ∧ (¬ (wr y3 ≤ wr y6) → Ct Γ l d 0 yX2_oddsBehind mX2_oddsBehind [vR 8, vI y5, vI y4] (stt g) (bI (fun v1 g1 => AW Γ l mX11_fence (d + 1) b 39 [vR 1, vI x1, vI x2, vI y3, vI y4, vI v1, vI (y6 + 1)] [] (stt g1) K) K))) : AW Γ l mX11_fence (d + 1) b 39 [vR 1, vI x1, vI x2, vI y3, vI y4, vI y5, vI y6] [] (stt g) K := by
  refine aw_iload (i := 6) (by decide +kernel) rfl ?_
  refine aw_iload_n (k' := 3) (by decide +kernel) rfl ?_
  refine ax_icmp_ge (off := 22) (tgt := 64) (x' := wr y6) (y' := wr y3) (by decide +kernel) (by decide) rfl rfl (fun hc => ?_) (fun hc => ?_)
  · have hF := hF.1 hc
    refine aw_iload (i := 5) (by decide +kernel) rfl ?_
    refine aw_bipush (n := 100) (by decide +kernel) (by decide +kernel) ?_
    refine aw_iload_n (k' := 2) (by decide +kernel) rfl ?_
    refine aw_imul (by decide +kernel) ?_
    refine ax_icmp_lt (off := 6) (tgt := 76) (x' := wr y5) (y' := wr (100 * x2)) (by decide +kernel) (by decide) rfl rfl (fun hc => ?_) (fun hc => ?_)
    · have hF := hF.1 hc
      refine aw_iinc (i := 4) (n := 1) (by decide +kernel) rfl (by decide) ?_
      show AW Γ l mX11_fence (d + 1) b 79 [vR 1, vI x1, vI x2, vI y3, vI (y4 + 1), vI y5, vI y6] [] (stt g) K
      refine aw_goto (off := -55) (tgt := 24) (by decide +kernel) (by decide) ?_
      exact hF
    · have hF := hF.2 hc
      refine aw_iload (i := 4) (by decide +kernel) rfl ?_
      exact aw_iret (by decide +kernel) rfl hF
  · have hF := hF.2 hc
    refine aw_aload_n (k' := 0) (by decide +kernel) rfl ?_
    refine gfX11_26 rfl (by decide +kernel) (OB.at (ci := 9) (show shp 1 = (19, 0) by decide +kernel) (by decide)) ?_
    refine AW.topR (show RC 1 2 = 8 by decide +kernel) ?_
    refine aw_iload (i := 5) (by decide +kernel) rfl ?_
    refine aw_iload (i := 4) (by decide +kernel) rfl ?_
    refine aw_callV (y := yX2_oddsBehind) (M2 := mX2_oddsBehind) (as := [vI y5, vI y4]) (S := []) (t := 8) (d2 := d) (b2 := 0) (b3 := b) cwX2_oddsBehind mlX11_320 imX2_oddsBehind seX2_oddsBehind (by decide +kernel) rfl (ci := 2) rfl (OB.at (ci := 2) (show shp 8 = (12, 0) by decide +kernel) (by decide)) (Nat.le_refl _) (Nat.le_of_eq (Nat.zero_add _)) rfl rfl (by simp [oneSlot]) (Nat.le_of_ble_eq_true rfl) (Ct.mono hF ?_)
    rintro o h' (⟨v1, g1, rfl, rfl, hG⟩ | ⟨E, g, rfl, rfl, hG⟩)
    · show AW Γ l mX11_fence (d + 1) b 56 [vR 1, vI x1, vI x2, vI y3, vI y4, vI y5, vI y6] [vI v1] (stt g1) K
      refine aw_istore (i := 5) (by decide +kernel) (by decide) ?_
      show AW Γ l mX11_fence (d + 1) b 58 [vR 1, vI x1, vI x2, vI y3, vI y4, vI v1, vI y6] [] (stt g1) K
      refine aw_iinc (i := 6) (n := 1) (by decide +kernel) rfl (by decide) ?_
      show AW Γ l mX11_fence (d + 1) b 61 [vR 1, vI x1, vI x2, vI y3, vI y4, vI v1, vI (y6 + 1)] [] (stt g1) K
      refine aw_goto (off := -22) (tgt := 39) (by decide +kernel) (by decide) ?_
      exact hG
    · exact hG

set_option maxHeartbeats 1000000 in
theorem wpX11_gainsay {Γ : Cfg} {l : Launch} {d b : Nat} {g : GG} {K : Ou → HP → Prop} {x1 : Int} {x2 : Int} (hb : 3 ≤ b) (hF : Ct Γ l d 1 yX11_needPerson mX11_needPerson [vR 1, vI x1] (stt g) (bV (fun g1 => Ct Γ l d 1 yX11_needPerson mX11_needPerson [vR 1, vI x2] (stt g1) (bV (fun g2 => Ct Γ l d 1 yX11_needTwo mX11_needTwo [vI x1, vI x2] (stt g2) (bV (fun g3 => Ct Γ l d 0 yX11_areAtOdds mX11_areAtOdds [vR 1, vI x1, vI x2] (stt g3) (bI (fun v1 g4 => (wr v1 = 0 ∨ wr v1 = 1) ∧ K (.inl (vI v1)) (stt g4)) K)) K)) K)) K)) : Ct Γ l (d + 1) b yX11_gainsay mX11_gainsay [vR 1, vI x1, vI x2] (stt g) K := by
  refine Ct.enter (L := [vR 1, vI x1, vI x2]) rfl rfl rfl (by decide +kernel) (by simp [oneSlot]) (Nat.le_of_ble_eq_true rfl) rfl ?_
  refine aw_aload_n (k' := 0) (by decide +kernel) rfl ?_
  refine aw_iload_n (k' := 1) (by decide +kernel) rfl ?_
  refine aw_callV (y := yX11_needPerson) (M2 := mX11_needPerson) (as := [vI x1]) (S := []) (t := 1) (d2 := d) (b2 := 1) (b3 := b - 1) cwX11_needPerson mlX11_162 imX11_needPerson seX11_needPerson (by decide +kernel) rfl (ci := 9) rfl (OB.at (ci := 9) (show shp 1 = (19, 0) by decide +kernel) (by decide)) (Nat.le_refl _) (by omega) rfl rfl (by simp [oneSlot]) (Nat.le_of_ble_eq_true rfl) (Ct.mono hF ?_)
  rintro o h' (⟨g1, rfl, rfl, hG⟩ | ⟨E, g, rfl, rfl, hG⟩)
  · show AW Γ l mX11_gainsay (d + 1) (b - 1) 5 [vR 1, vI x1, vI x2] [] (stt g1) K
    refine aw_aload_n (k' := 0) (by decide +kernel) rfl ?_
    refine aw_iload_n (k' := 2) (by decide +kernel) rfl ?_
    refine aw_callV (y := yX11_needPerson) (M2 := mX11_needPerson) (as := [vI x2]) (S := []) (t := 1) (d2 := d) (b2 := 1) (b3 := b - 1 - 1) cwX11_needPerson mlX11_162 imX11_needPerson seX11_needPerson (by decide +kernel) rfl (ci := 9) rfl (OB.at (ci := 9) (show shp 1 = (19, 0) by decide +kernel) (by decide)) (Nat.le_refl _) (by omega) rfl rfl (by simp [oneSlot]) (Nat.le_of_ble_eq_true rfl) (Ct.mono hG ?_)
    rintro o h' (⟨g2, rfl, rfl, hG⟩ | ⟨E, g, rfl, rfl, hG⟩)
    · show AW Γ l mX11_gainsay (d + 1) (b - 1 - 1) 10 [vR 1, vI x1, vI x2] [] (stt g2) K
      refine aw_iload_n (k' := 1) (by decide +kernel) rfl ?_
      refine aw_iload_n (k' := 2) (by decide +kernel) rfl ?_
      refine aw_callS (y := yX11_needTwo) (M2 := mX11_needTwo) (as := [vI x1, vI x2]) (S := []) (d2 := d) (b2 := 1) (b3 := b - 1 - 1 - 1) cwX11_needTwo mlX11_297 stX11_needTwo (by decide +kernel) rfl (Nat.le_refl _) (by omega) rfl rfl (by simp [oneSlot]) (Nat.le_of_ble_eq_true rfl) (Ct.mono hG ?_)
      rintro o h' (⟨g3, rfl, rfl, hG⟩ | ⟨E, g, rfl, rfl, hG⟩)
      · show AW Γ l mX11_gainsay (d + 1) (b - 1 - 1 - 1) 15 [vR 1, vI x1, vI x2] [] (stt g3) K
        refine aw_aload_n (k' := 0) (by decide +kernel) rfl ?_
        refine aw_iload_n (k' := 1) (by decide +kernel) rfl ?_
        refine aw_iload_n (k' := 2) (by decide +kernel) rfl ?_
        refine aw_callV (y := yX11_areAtOdds) (M2 := mX11_areAtOdds) (as := [vI x1, vI x2]) (S := []) (t := 1) (d2 := d) (b2 := 0) (b3 := b - 1 - 1 - 1) cwX11_areAtOdds mlX11_323 imX11_areAtOdds seX11_areAtOdds (by decide +kernel) rfl (ci := 9) rfl (OB.at (ci := 9) (show shp 1 = (19, 0) by decide +kernel) (by decide)) (Nat.le_refl _) (Nat.le_of_eq (Nat.zero_add _)) rfl rfl (by simp [oneSlot]) (Nat.le_of_ble_eq_true rfl) (Ct.mono hG ?_)
        rintro o h' (⟨v1, g4, rfl, rfl, hG⟩ | ⟨E, g, rfl, rfl, hG⟩)
        · show AW Γ l mX11_gainsay (d + 1) (b - 1 - 1 - 1) 21 [vR 1, vI x1, vI x2] [vI v1] (stt g4) K
          exact aw_zret (by decide +kernel) rfl (nar_z hG.1) hG.2
        · exact hG
      · exact hG
    · exact hG
  · exact hG

set_option maxHeartbeats 1000000 in
theorem wpX11_peace {Γ : Cfg} {l : Launch} {d b : Nat} {g : GG} {K : Ou → HP → Prop}  (hF : Ct Γ l d 0 yX2_bitsOf mX2_bitsOf [vR 8, vI 2] (stt g) (bI (fun v1 g1 => Ct Γ l d 0 yX11_fillAgainst mX11_fillAgainst [vR 1] (stt g1) (bV (fun g2 => AW Γ l mX11_peace (d + 1) b 17 [vR 1, vI v1, vI 0, vI 1, vU] [] (stt g2) K) K)) K)) : Ct Γ l (d + 1) b yX11_peace mX11_peace [vR 1] (stt g) K := by
  refine Ct.enter (L := [vR 1, vU, vU, vU, vU]) rfl rfl rfl (by decide +kernel) (by simp [oneSlot]) (Nat.le_of_ble_eq_true rfl) rfl ?_
  refine aw_aload_n (k' := 0) (by decide +kernel) rfl ?_
  refine gfX11_26 rfl (by decide +kernel) (OB.at (ci := 9) (show shp 1 = (19, 0) by decide +kernel) (by decide)) ?_
  refine AW.topR (show RC 1 2 = 8 by decide +kernel) ?_
  refine aw_iconst (n := 2) (by decide +kernel) ?_
  refine aw_callV (y := yX2_bitsOf) (M2 := mX2_bitsOf) (as := [vI 2]) (S := []) (t := 8) (d2 := d) (b2 := 0) (b3 := b) cwX2_bitsOf mlX11_327 imX2_bitsOf seX2_bitsOf (by decide +kernel) rfl (ci := 2) rfl (OB.at (ci := 2) (show shp 8 = (12, 0) by decide +kernel) (by decide)) (Nat.le_refl _) (Nat.le_of_eq (Nat.zero_add _)) rfl rfl (by simp [oneSlot]) (Nat.le_of_ble_eq_true rfl) (Ct.mono hF ?_)
  rintro o h' (⟨v1, g1, rfl, rfl, hG⟩ | ⟨E, g, rfl, rfl, hG⟩)
  · show AW Γ l mX11_peace (d + 1) b 8 [vR 1, vU, vU, vU, vU] [vI v1] (stt g1) K
    refine aw_istore_n (k' := 1) (by decide +kernel) (by decide) ?_
    show AW Γ l mX11_peace (d + 1) b 9 [vR 1, vI v1, vU, vU, vU] [] (stt g1) K
    refine aw_aload_n (k' := 0) (by decide +kernel) rfl ?_
    refine aw_callV (y := yX11_fillAgainst) (M2 := mX11_fillAgainst) (as := []) (S := []) (t := 1) (d2 := d) (b2 := 0) (b3 := b) cwX11_fillAgainst mlX11_330 imX11_fillAgainst seX11_fillAgainst (by decide +kernel) rfl (ci := 9) rfl (OB.at (ci := 9) (show shp 1 = (19, 0) by decide +kernel) (by decide)) (Nat.le_refl _) (Nat.le_of_eq (Nat.zero_add _)) rfl rfl (by simp [oneSlot]) (Nat.le_of_ble_eq_true rfl) (Ct.mono hG ?_)
    rintro o h' (⟨g2, rfl, rfl, hG⟩ | ⟨E, g, rfl, rfl, hG⟩)
    · show AW Γ l mX11_peace (d + 1) b 13 [vR 1, vI v1, vU, vU, vU] [] (stt g2) K
      refine aw_iconst (n := 0) (by decide +kernel) ?_
      refine aw_istore_n (k' := 2) (by decide +kernel) (by decide) ?_
      show AW Γ l mX11_peace (d + 1) b 15 [vR 1, vI v1, vI 0, vU, vU] [] (stt g2) K
      refine aw_iconst (n := 1) (by decide +kernel) ?_
      refine aw_istore_n (k' := 3) (by decide +kernel) (by decide) ?_
      show AW Γ l mX11_peace (d + 1) b 17 [vR 1, vI v1, vI 0, vI 1, vU] [] (stt g2) K
      exact hG
    · exact hG
  · exact hG
set_option maxHeartbeats 1000000 in
theorem wpX11_peace_17 {Γ : Cfg} {l : Launch} {d b : Nat} {g : GG} {K : Ou → HP → Prop} {y1 : Int} {y2 : Int} {y3 : Int} (hF : (64 ≤ wr y3 → K (.inl (vI y2)) (stt g)) ∧ (¬ (64 ≤ wr y3) → (wr (iBC y3) ≤ wr (iBC y2) → (¬ wr (iAnd y3 (iXor y1 (-1))) = 0 → AW Γ l mX11_peace (d + 1) b 17 [vR 1, vI y1, vI y2, vI (y3 + 1), vI 0] [] (stt g) K) ∧ (¬ (¬ wr (iAnd y3 (iXor y1 (-1))) = 0) → AW Γ l mX11_peace (d + 1) b 17 [vR 1, vI y1, vI y2, vI (y3 + 1), vI 0] [] (stt g) K)) ∧ (¬ (wr (iBC y3) ≤ wr (iBC y2)) → (¬ wr (iAnd y3 (iXor y1 (-1))) = 0 → AW Γ l mX11_peace (d + 1) b 17 [vR 1, vI y1, vI y2, vI (y3 + 1), vI 1] [] (stt g) K) ∧ (¬ (¬ wr (iAnd y3 (iXor y1 (-1))) = 0) → Ct Γ l d 0 yX11_isPeaceful mX11_isPeaceful [vR 1, vI y3] (stt g) (bI (fun v1 g1 => (wr v1 = 0 → AW Γ l mX11_peace (d + 1) b 17 [vR 1, vI y1, vI y2, vI (y3 + 1), vI 1] [] (stt g1) K) ∧ (¬ (wr v1 = 0) → AW Γ l mX11_peace (d + 1) b 17 [vR 1, vI y1, vI y3, vI (y3 + 1), vI 1] [] (stt g1) K)) K))))) : AW Γ l mX11_peace (d + 1) b 17 [vR 1, vI y1, vI y2, vI y3, vU] [] (stt g) K := by
  refine aw_iload_n (k' := 3) (by decide +kernel) rfl ?_
  refine aw_bipush (n := 64) (by decide +kernel) (by decide +kernel) ?_
  refine ax_icmp_ge (off := 50) (tgt := 70) (x' := wr y3) (y' := 64) (by decide +kernel) (by decide) rfl (by decide +kernel) (fun hc => ?_) (fun hc => ?_)
  · have hF := hF.1 hc
    refine aw_iload_n (k' := 2) (by decide +kernel) rfl ?_
    exact aw_iret (by decide +kernel) rfl hF
  · have hF := hF.2 hc
    refine aw_iload_n (k' := 3) (by decide +kernel) rfl ?_
    refine aw_callS (y := yJ6_bitCount_0f7a4) (M2 := mJ6_bitCount_0f7a4) (as := [vI y3]) (S := []) (d2 := d) (b2 := 0) (b3 := b) cwJ6_bitCount_0f7a4 mlX11_333 stJ6_bitCount_0f7a4 (by decide +kernel) rfl (Nat.le_refl _) (Nat.le_of_eq (Nat.zero_add _)) rfl rfl (by simp [oneSlot]) (Nat.le_of_ble_eq_true rfl) (c_bitCount ?_)
    show AW Γ l mX11_peace (d + 1) b 27 [vR 1, vI y1, vI y2, vI y3, vU] [vI (iBC y3)] (stt g) K
    refine aw_iload_n (k' := 2) (by decide +kernel) rfl ?_
    refine aw_callS (y := yJ6_bitCount_0f7a4) (M2 := mJ6_bitCount_0f7a4) (as := [vI y2]) (S := [vI (iBC y3)]) (d2 := d) (b2 := 0) (b3 := b) cwJ6_bitCount_0f7a4 mlX11_333 stJ6_bitCount_0f7a4 (by decide +kernel) rfl (Nat.le_refl _) (Nat.le_of_eq (Nat.zero_add _)) rfl rfl (by simp [oneSlot]) (Nat.le_of_ble_eq_true rfl) (c_bitCount ?_)
    show AW Γ l mX11_peace (d + 1) b 31 [vR 1, vI y1, vI y2, vI y3, vU] [vI (iBC y2), vI (iBC y3)] (stt g) K
    refine ax_icmp_le (off := 7) (tgt := 38) (x' := wr (iBC y3)) (y' := wr (iBC y2)) (by decide +kernel) (by decide) rfl rfl (fun hc => ?_) (fun hc => ?_)
    · have hF := hF.1 hc
      refine aw_iconst (n := 0) (by decide +kernel) ?_
      refine aw_istore (i := 4) (by decide +kernel) (by decide) ?_
      show AW Γ l mX11_peace (d + 1) b 41 [vR 1, vI y1, vI y2, vI y3, vI 0] [] (stt g) K
      refine aw_iload_n (k' := 3) (by decide +kernel) rfl ?_
      refine aw_iload_n (k' := 1) (by decide +kernel) rfl ?_
      refine aw_iconst (n := -1) (by decide +kernel) ?_
      refine aw_ixor (by decide +kernel) ?_
      refine aw_iand (by decide +kernel) ?_
      refine ax_if_ne (off := 18) (tgt := 64) (x' := wr (iAnd y3 (iXor y1 (-1)))) (by decide +kernel) (by decide) rfl (fun hc => ?_) (fun hc => ?_)
      · have hF := hF.1 hc
        refine aw_iinc (i := 3) (n := 1) (by decide +kernel) rfl (by decide) ?_
        show AW Γ l mX11_peace (d + 1) b 67 [vR 1, vI y1, vI y2, vI (y3 + 1), vI 0] [] (stt g) K
        refine aw_goto (off := -50) (tgt := 17) (by decide +kernel) (by decide) ?_
        exact hF
      · have hF := hF.2 hc
        refine aw_iload (i := 4) (by decide +kernel) rfl ?_
        refine ax_if_eq (off := 13) (tgt := 64) (x' := 0) (by decide +kernel) (by decide) (by decide +kernel) (fun hc => ?_) (fun hc => absurd (by decide) hc)
        refine aw_iinc (i := 3) (n := 1) (by decide +kernel) rfl (by decide) ?_
        show AW Γ l mX11_peace (d + 1) b 67 [vR 1, vI y1, vI y2, vI (y3 + 1), vI 0] [] (stt g) K
        refine aw_goto (off := -50) (tgt := 17) (by decide +kernel) (by decide) ?_
        exact hF
    · have hF := hF.2 hc
      refine aw_iconst (n := 1) (by decide +kernel) ?_
      refine aw_goto (off := 4) (tgt := 39) (by decide +kernel) (by decide) ?_
      refine aw_istore (i := 4) (by decide +kernel) (by decide) ?_
      show AW Γ l mX11_peace (d + 1) b 41 [vR 1, vI y1, vI y2, vI y3, vI 1] [] (stt g) K
      refine aw_iload_n (k' := 3) (by decide +kernel) rfl ?_
      refine aw_iload_n (k' := 1) (by decide +kernel) rfl ?_
      refine aw_iconst (n := -1) (by decide +kernel) ?_
      refine aw_ixor (by decide +kernel) ?_
      refine aw_iand (by decide +kernel) ?_
      refine ax_if_ne (off := 18) (tgt := 64) (x' := wr (iAnd y3 (iXor y1 (-1)))) (by decide +kernel) (by decide) rfl (fun hc => ?_) (fun hc => ?_)
      · have hF := hF.1 hc
        refine aw_iinc (i := 3) (n := 1) (by decide +kernel) rfl (by decide) ?_
        show AW Γ l mX11_peace (d + 1) b 67 [vR 1, vI y1, vI y2, vI (y3 + 1), vI 1] [] (stt g) K
        refine aw_goto (off := -50) (tgt := 17) (by decide +kernel) (by decide) ?_
        exact hF
      · have hF := hF.2 hc
        refine aw_iload (i := 4) (by decide +kernel) rfl ?_
        refine ax_if_eq (off := 13) (tgt := 64) (x' := 1) (by decide +kernel) (by decide) (by decide +kernel) (fun hc => absurd hc (by decide)) (fun hc => ?_)
        refine aw_aload_n (k' := 0) (by decide +kernel) rfl ?_
        refine aw_iload_n (k' := 3) (by decide +kernel) rfl ?_
        refine aw_callV (y := yX11_isPeaceful) (M2 := mX11_isPeaceful) (as := [vI y3]) (S := []) (t := 1) (d2 := d) (b2 := 0) (b3 := b) cwX11_isPeaceful mlX11_338 imX11_isPeaceful seX11_isPeaceful (by decide +kernel) rfl (ci := 9) rfl (OB.at (ci := 9) (show shp 1 = (19, 0) by decide +kernel) (by decide)) (Nat.le_refl _) (Nat.le_of_eq (Nat.zero_add _)) rfl rfl (by simp [oneSlot]) (Nat.le_of_ble_eq_true rfl) (Ct.mono hF ?_)
        rintro o h' (⟨v1, g1, rfl, rfl, hG⟩ | ⟨E, g, rfl, rfl, hG⟩)
        · show AW Γ l mX11_peace (d + 1) b 59 [vR 1, vI y1, vI y2, vI y3, vI 1] [vI v1] (stt g1) K
          refine ax_if_eq (off := 5) (tgt := 64) (x' := wr v1) (by decide +kernel) (by decide) rfl (fun hc => ?_) (fun hc => ?_)
          · have hG := hG.1 hc
            refine aw_iinc (i := 3) (n := 1) (by decide +kernel) rfl (by decide) ?_
            show AW Γ l mX11_peace (d + 1) b 67 [vR 1, vI y1, vI y2, vI (y3 + 1), vI 1] [] (stt g1) K
            refine aw_goto (off := -50) (tgt := 17) (by decide +kernel) (by decide) ?_
            exact hG
          · have hG := hG.2 hc
            refine aw_iload_n (k' := 3) (by decide +kernel) rfl ?_
            refine aw_istore_n (k' := 2) (by decide +kernel) (by decide) ?_
            show AW Γ l mX11_peace (d + 1) b 64 [vR 1, vI y1, vI y3, vI y3, vI 1] [] (stt g1) K
            refine aw_iinc (i := 3) (n := 1) (by decide +kernel) rfl (by decide) ?_
            show AW Γ l mX11_peace (d + 1) b 67 [vR 1, vI y1, vI y3, vI (y3 + 1), vI 1] [] (stt g1) K
            refine aw_goto (off := -50) (tgt := 17) (by decide +kernel) (by decide) ?_
            exact hG
        · exact hG

set_option maxHeartbeats 1000000 in
theorem wpX11_quiet {Γ : Cfg} {l : Launch} {d b : Nat} {g : GG} {K : Ou → HP → Prop}  (hF : Ct Γ l d 0 yX2_bitsOf mX2_bitsOf [vR 8, vI 2] (stt g) (bI (fun v1 g1 => Ct Γ l d 0 yX11_fillAgainst mX11_fillAgainst [vR 1] (stt g1) (bV (fun g2 => AW Γ l mX11_quiet (d + 1) b 17 [vR 1, vI v1, vI v1, vI 0, vU] [] (stt g2) K) K)) K)) : Ct Γ l (d + 1) b yX11_quiet mX11_quiet [vR 1] (stt g) K := by
  refine Ct.enter (L := [vR 1, vU, vU, vU, vU]) rfl rfl rfl (by decide +kernel) (by simp [oneSlot]) (Nat.le_of_ble_eq_true rfl) rfl ?_
  refine aw_aload_n (k' := 0) (by decide +kernel) rfl ?_
  refine gfX11_26 rfl (by decide +kernel) (OB.at (ci := 9) (show shp 1 = (19, 0) by decide +kernel) (by decide)) ?_
  refine AW.topR (show RC 1 2 = 8 by decide +kernel) ?_
  refine aw_iconst (n := 2) (by decide +kernel) ?_
  refine aw_callV (y := yX2_bitsOf) (M2 := mX2_bitsOf) (as := [vI 2]) (S := []) (t := 8) (d2 := d) (b2 := 0) (b3 := b) cwX2_bitsOf mlX11_327 imX2_bitsOf seX2_bitsOf (by decide +kernel) rfl (ci := 2) rfl (OB.at (ci := 2) (show shp 8 = (12, 0) by decide +kernel) (by decide)) (Nat.le_refl _) (Nat.le_of_eq (Nat.zero_add _)) rfl rfl (by simp [oneSlot]) (Nat.le_of_ble_eq_true rfl) (Ct.mono hF ?_)
  rintro o h' (⟨v1, g1, rfl, rfl, hG⟩ | ⟨E, g, rfl, rfl, hG⟩)
  · show AW Γ l mX11_quiet (d + 1) b 8 [vR 1, vU, vU, vU, vU] [vI v1] (stt g1) K
    refine aw_istore_n (k' := 1) (by decide +kernel) (by decide) ?_
    show AW Γ l mX11_quiet (d + 1) b 9 [vR 1, vI v1, vU, vU, vU] [] (stt g1) K
    refine aw_aload_n (k' := 0) (by decide +kernel) rfl ?_
    refine aw_callV (y := yX11_fillAgainst) (M2 := mX11_fillAgainst) (as := []) (S := []) (t := 1) (d2 := d) (b2 := 0) (b3 := b) cwX11_fillAgainst mlX11_330 imX11_fillAgainst seX11_fillAgainst (by decide +kernel) rfl (ci := 9) rfl (OB.at (ci := 9) (show shp 1 = (19, 0) by decide +kernel) (by decide)) (Nat.le_refl _) (Nat.le_of_eq (Nat.zero_add _)) rfl rfl (by simp [oneSlot]) (Nat.le_of_ble_eq_true rfl) (Ct.mono hG ?_)
    rintro o h' (⟨g2, rfl, rfl, hG⟩ | ⟨E, g, rfl, rfl, hG⟩)
    · show AW Γ l mX11_quiet (d + 1) b 13 [vR 1, vI v1, vU, vU, vU] [] (stt g2) K
      refine aw_iload_n (k' := 1) (by decide +kernel) rfl ?_
      refine aw_istore_n (k' := 2) (by decide +kernel) (by decide) ?_
      show AW Γ l mX11_quiet (d + 1) b 15 [vR 1, vI v1, vI v1, vU, vU] [] (stt g2) K
      refine aw_iconst (n := 0) (by decide +kernel) ?_
      refine aw_istore_n (k' := 3) (by decide +kernel) (by decide) ?_
      show AW Γ l mX11_quiet (d + 1) b 17 [vR 1, vI v1, vI v1, vI 0, vU] [] (stt g2) K
      exact hG
    · exact hG
  · exact hG
set_option maxHeartbeats 1000000 in
theorem wpX11_quiet_17 {Γ : Cfg} {l : Launch} {d b : Nat} {g : GG} {K : Ou → HP → Prop} {y1 : Int} {y2 : Int} {y3 : Int} (hF : (64 ≤ wr y3 → K (.inl (vI y2)) (stt g)) ∧ (¬ (64 ≤ wr y3) → (wr (iBC y2) ≤ wr (iBC y3) → (¬ wr (iAnd y3 (iXor y1 (-1))) = 0 → AW Γ l mX11_quiet (d + 1) b 17 [vR 1, vI y1, vI y2, vI (y3 + 1), vI 0] [] (stt g) K) ∧ (¬ (¬ wr (iAnd y3 (iXor y1 (-1))) = 0) → AW Γ l mX11_quiet (d + 1) b 17 [vR 1, vI y1, vI y2, vI (y3 + 1), vI 0] [] (stt g) K)) ∧ (¬ (wr (iBC y2) ≤ wr (iBC y3)) → (¬ wr (iAnd y3 (iXor y1 (-1))) = 0 → AW Γ l mX11_quiet (d + 1) b 17 [vR 1, vI y1, vI y2, vI (y3 + 1), vI 1] [] (stt g) K) ∧ (¬ (¬ wr (iAnd y3 (iXor y1 (-1))) = 0) → Ct Γ l d 0 yX11_isPeaceful mX11_isPeaceful [vR 1, vI (iAnd y1 (iXor y3 (-1)))] (stt g) (bI (fun v1 g1 => (wr v1 = 0 → AW Γ l mX11_quiet (d + 1) b 17 [vR 1, vI y1, vI y2, vI (y3 + 1), vI 1] [] (stt g1) K) ∧ (¬ (wr v1 = 0) → AW Γ l mX11_quiet (d + 1) b 17 [vR 1, vI y1, vI y3, vI (y3 + 1), vI 1] [] (stt g1) K)) K))))) : AW Γ l mX11_quiet (d + 1) b 17 [vR 1, vI y1, vI y2, vI y3, vU] [] (stt g) K := by
  refine aw_iload_n (k' := 3) (by decide +kernel) rfl ?_
  refine aw_bipush (n := 64) (by decide +kernel) (by decide +kernel) ?_
  refine ax_icmp_ge (off := 54) (tgt := 74) (x' := wr y3) (y' := 64) (by decide +kernel) (by decide) rfl (by decide +kernel) (fun hc => ?_) (fun hc => ?_)
  · have hF := hF.1 hc
    refine aw_iload_n (k' := 2) (by decide +kernel) rfl ?_
    exact aw_iret (by decide +kernel) rfl hF
  · have hF := hF.2 hc
    refine aw_iload_n (k' := 3) (by decide +kernel) rfl ?_
    refine aw_callS (y := yJ6_bitCount_0f7a4) (M2 := mJ6_bitCount_0f7a4) (as := [vI y3]) (S := []) (d2 := d) (b2 := 0) (b3 := b) cwJ6_bitCount_0f7a4 mlX11_333 stJ6_bitCount_0f7a4 (by decide +kernel) rfl (Nat.le_refl _) (Nat.le_of_eq (Nat.zero_add _)) rfl rfl (by simp [oneSlot]) (Nat.le_of_ble_eq_true rfl) (c_bitCount ?_)
    show AW Γ l mX11_quiet (d + 1) b 27 [vR 1, vI y1, vI y2, vI y3, vU] [vI (iBC y3)] (stt g) K
    refine aw_iload_n (k' := 2) (by decide +kernel) rfl ?_
    refine aw_callS (y := yJ6_bitCount_0f7a4) (M2 := mJ6_bitCount_0f7a4) (as := [vI y2]) (S := [vI (iBC y3)]) (d2 := d) (b2 := 0) (b3 := b) cwJ6_bitCount_0f7a4 mlX11_333 stJ6_bitCount_0f7a4 (by decide +kernel) rfl (Nat.le_refl _) (Nat.le_of_eq (Nat.zero_add _)) rfl rfl (by simp [oneSlot]) (Nat.le_of_ble_eq_true rfl) (c_bitCount ?_)
    show AW Γ l mX11_quiet (d + 1) b 31 [vR 1, vI y1, vI y2, vI y3, vU] [vI (iBC y2), vI (iBC y3)] (stt g) K
    refine ax_icmp_ge (off := 7) (tgt := 38) (x' := wr (iBC y3)) (y' := wr (iBC y2)) (by decide +kernel) (by decide) rfl rfl (fun hc => ?_) (fun hc => ?_)
    · have hF := hF.1 hc
      refine aw_iconst (n := 0) (by decide +kernel) ?_
      refine aw_istore (i := 4) (by decide +kernel) (by decide) ?_
      show AW Γ l mX11_quiet (d + 1) b 41 [vR 1, vI y1, vI y2, vI y3, vI 0] [] (stt g) K
      refine aw_iload_n (k' := 3) (by decide +kernel) rfl ?_
      refine aw_iload_n (k' := 1) (by decide +kernel) rfl ?_
      refine aw_iconst (n := -1) (by decide +kernel) ?_
      refine aw_ixor (by decide +kernel) ?_
      refine aw_iand (by decide +kernel) ?_
      refine ax_if_ne (off := 22) (tgt := 68) (x' := wr (iAnd y3 (iXor y1 (-1)))) (by decide +kernel) (by decide) rfl (fun hc => ?_) (fun hc => ?_)
      · have hF := hF.1 hc
        refine aw_iinc (i := 3) (n := 1) (by decide +kernel) rfl (by decide) ?_
        show AW Γ l mX11_quiet (d + 1) b 71 [vR 1, vI y1, vI y2, vI (y3 + 1), vI 0] [] (stt g) K
        refine aw_goto (off := -54) (tgt := 17) (by decide +kernel) (by decide) ?_
        exact hF
      · have hF := hF.2 hc
        refine aw_iload (i := 4) (by decide +kernel) rfl ?_
        refine ax_if_eq (off := 17) (tgt := 68) (x' := 0) (by decide +kernel) (by decide) (by decide +kernel) (fun hc => ?_) (fun hc => absurd (by decide) hc)
        refine aw_iinc (i := 3) (n := 1) (by decide +kernel) rfl (by decide) ?_
        show AW Γ l mX11_quiet (d + 1) b 71 [vR 1, vI y1, vI y2, vI (y3 + 1), vI 0] [] (stt g) K
        refine aw_goto (off := -54) (tgt := 17) (by decide +kernel) (by decide) ?_
        exact hF
    · have hF := hF.2 hc
      refine aw_iconst (n := 1) (by decide +kernel) ?_
      refine aw_goto (off := 4) (tgt := 39) (by decide +kernel) (by decide) ?_
      refine aw_istore (i := 4) (by decide +kernel) (by decide) ?_
      show AW Γ l mX11_quiet (d + 1) b 41 [vR 1, vI y1, vI y2, vI y3, vI 1] [] (stt g) K
      refine aw_iload_n (k' := 3) (by decide +kernel) rfl ?_
      refine aw_iload_n (k' := 1) (by decide +kernel) rfl ?_
      refine aw_iconst (n := -1) (by decide +kernel) ?_
      refine aw_ixor (by decide +kernel) ?_
      refine aw_iand (by decide +kernel) ?_
      refine ax_if_ne (off := 22) (tgt := 68) (x' := wr (iAnd y3 (iXor y1 (-1)))) (by decide +kernel) (by decide) rfl (fun hc => ?_) (fun hc => ?_)
      · have hF := hF.1 hc
        refine aw_iinc (i := 3) (n := 1) (by decide +kernel) rfl (by decide) ?_
        show AW Γ l mX11_quiet (d + 1) b 71 [vR 1, vI y1, vI y2, vI (y3 + 1), vI 1] [] (stt g) K
        refine aw_goto (off := -54) (tgt := 17) (by decide +kernel) (by decide) ?_
        exact hF
      · have hF := hF.2 hc
        refine aw_iload (i := 4) (by decide +kernel) rfl ?_
        refine ax_if_eq (off := 17) (tgt := 68) (x' := 1) (by decide +kernel) (by decide) (by decide +kernel) (fun hc => absurd hc (by decide)) (fun hc => ?_)
        refine aw_aload_n (k' := 0) (by decide +kernel) rfl ?_
        refine aw_iload_n (k' := 1) (by decide +kernel) rfl ?_
        refine aw_iload_n (k' := 3) (by decide +kernel) rfl ?_
        refine aw_iconst (n := -1) (by decide +kernel) ?_
        refine aw_ixor (by decide +kernel) ?_
        refine aw_iand (by decide +kernel) ?_
        refine aw_callV (y := yX11_isPeaceful) (M2 := mX11_isPeaceful) (as := [vI (iAnd y1 (iXor y3 (-1)))]) (S := []) (t := 1) (d2 := d) (b2 := 0) (b3 := b) cwX11_isPeaceful mlX11_338 imX11_isPeaceful seX11_isPeaceful (by decide +kernel) rfl (ci := 9) rfl (OB.at (ci := 9) (show shp 1 = (19, 0) by decide +kernel) (by decide)) (Nat.le_refl _) (Nat.le_of_eq (Nat.zero_add _)) rfl rfl (by simp [oneSlot]) (Nat.le_of_ble_eq_true rfl) (Ct.mono hF ?_)
        rintro o h' (⟨v1, g1, rfl, rfl, hG⟩ | ⟨E, g, rfl, rfl, hG⟩)
        · show AW Γ l mX11_quiet (d + 1) b 63 [vR 1, vI y1, vI y2, vI y3, vI 1] [vI v1] (stt g1) K
          refine ax_if_eq (off := 5) (tgt := 68) (x' := wr v1) (by decide +kernel) (by decide) rfl (fun hc => ?_) (fun hc => ?_)
          · have hG := hG.1 hc
            refine aw_iinc (i := 3) (n := 1) (by decide +kernel) rfl (by decide) ?_
            show AW Γ l mX11_quiet (d + 1) b 71 [vR 1, vI y1, vI y2, vI (y3 + 1), vI 1] [] (stt g1) K
            refine aw_goto (off := -54) (tgt := 17) (by decide +kernel) (by decide) ?_
            exact hG
          · have hG := hG.2 hc
            refine aw_iload_n (k' := 3) (by decide +kernel) rfl ?_
            refine aw_istore_n (k' := 2) (by decide +kernel) (by decide) ?_
            show AW Γ l mX11_quiet (d + 1) b 68 [vR 1, vI y1, vI y3, vI y3, vI 1] [] (stt g1) K
            refine aw_iinc (i := 3) (n := 1) (by decide +kernel) rfl (by decide) ?_
            show AW Γ l mX11_quiet (d + 1) b 71 [vR 1, vI y1, vI y3, vI (y3 + 1), vI 1] [] (stt g1) K
            refine aw_goto (off := -54) (tgt := 17) (by decide +kernel) (by decide) ?_
            exact hG
        · exact hG

set_option maxHeartbeats 1000000 in
theorem wpX11_areAtOdds {Γ : Cfg} {l : Launch} {d b : Nat} {g : GG} {K : Ou → HP → Prop} {x1 : Int} {x2 : Int} (hF : (¬ wr (cel g 13 x1) = 2 → K (.inl (vI 0)) (stt g)) ∧ (¬ (¬ wr (cel g 13 x1) = 2) → (wr (cel g 13 x2) = 2 → Ct Γ l d 0 yX11_heldWeight mX11_heldWeight [vR 1, vI x1] (stt g) (bI (fun v1 g1 => Ct Γ l d 0 yX11_heldWeight mX11_heldWeight [vR 1, vI x2] (stt g1) (bI (fun v2 g2 => (wr (cel g1 156 0) = 0 → K (.inl (vI 0)) (stt g2)) ∧ (¬ (wr (cel g1 156 0) = 0) → (¬ wr (cel g1 156 0) = wr (cel g2 156 0) → K (.inl (vI 0)) (stt g2)) ∧ (¬ (¬ wr (cel g1 156 0) = wr (cel g2 156 0)) → (wr (iAnd (cel g1 156 4) (cel g2 156 4)) = 0 → K (.inl (vI 0)) (stt g2)) ∧ (¬ (wr (iAnd (cel g1 156 4) (cel g2 156 4)) = 0) → (wr (cel g1 156 5) = wr (cel g2 156 5) → K (.inl (vI 0)) (stt g2)) ∧ (¬ (wr (cel g1 156 5) = wr (cel g2 156 5)) → K (.inl (vI 1)) (stt g2)))))) K)) K)) ∧ (¬ (wr (cel g 13 x2) = 2) → K (.inl (vI 0)) (stt g)))) : Ct Γ l (d + 1) b yX11_areAtOdds mX11_areAtOdds [vR 1, vI x1, vI x2] (stt g) K := by
  refine Ct.enter (L := [vR 1, vI x1, vI x2, vU, vU, vU]) rfl rfl rfl (by decide +kernel) (by simp [oneSlot]) (Nat.le_of_ble_eq_true rfl) rfl ?_
  refine aw_aload_n (k' := 0) (by decide +kernel) rfl ?_
  refine gfX11_26 rfl (by decide +kernel) (OB.at (ci := 9) (show shp 1 = (19, 0) by decide +kernel) (by decide)) ?_
  refine AW.topR (show RC 1 2 = 8 by decide +kernel) ?_
  refine gfX11_178 rfl (by decide +kernel) (OB.at (ci := 2) (show shp 8 = (12, 0) by decide +kernel) (by decide)) ?_
  refine AW.topR (show RC 8 4 = 13 by decide +kernel) ?_
  refine aw_iload_n (k' := 1) (by decide +kernel) rfl ?_
  refine aw_callS (y := yX11_cell) (M2 := mX11_cell) (as := [vR 13, vI x1]) (S := []) (d2 := d) (b2 := 0) (b3 := b) cwX11_cell mlX11_168 stX11_cell (by decide +kernel) rfl (Nat.le_refl _) (Nat.le_of_eq (Nat.zero_add _)) rfl rfl (by simp [oneSlot]) (Nat.le_of_ble_eq_true rfl) (c_cell (show (shp 13).1 = 0 by decide +kernel) ?_)
  show AW Γ l mX11_areAtOdds (d + 1) b 11 [vR 1, vI x1, vI x2, vU, vU, vU] [vI (cel g 13 x1)] (stt g) K
  refine aw_iconst (n := 2) (by decide +kernel) ?_
  refine ax_icmp_ne (off := 18) (tgt := 30) (x' := wr (cel g 13 x1)) (y' := 2) (by decide +kernel) (by decide) rfl (by decide +kernel) (fun hc => ?_) (fun hc => ?_)
  · have hF := hF.1 hc
    refine aw_iconst (n := 0) (by decide +kernel) ?_
    exact aw_zret (by decide +kernel) rfl rfl hF
  · have hF := hF.2 hc
    refine aw_aload_n (k' := 0) (by decide +kernel) rfl ?_
    refine gfX11_26 rfl (by decide +kernel) (OB.at (ci := 9) (show shp 1 = (19, 0) by decide +kernel) (by decide)) ?_
    refine AW.topR (show RC 1 2 = 8 by decide +kernel) ?_
    refine gfX11_178 rfl (by decide +kernel) (OB.at (ci := 2) (show shp 8 = (12, 0) by decide +kernel) (by decide)) ?_
    refine AW.topR (show RC 8 4 = 13 by decide +kernel) ?_
    refine aw_iload_n (k' := 2) (by decide +kernel) rfl ?_
    refine aw_callS (y := yX11_cell) (M2 := mX11_cell) (as := [vR 13, vI x2]) (S := []) (d2 := d) (b2 := 0) (b3 := b) cwX11_cell mlX11_168 stX11_cell (by decide +kernel) rfl (Nat.le_refl _) (Nat.le_of_eq (Nat.zero_add _)) rfl rfl (by simp [oneSlot]) (Nat.le_of_ble_eq_true rfl) (c_cell (show (shp 13).1 = 0 by decide +kernel) ?_)
    show AW Γ l mX11_areAtOdds (d + 1) b 26 [vR 1, vI x1, vI x2, vU, vU, vU] [vI (cel g 13 x2)] (stt g) K
    refine aw_iconst (n := 2) (by decide +kernel) ?_
    refine ax_icmp_eq (off := 5) (tgt := 32) (x' := wr (cel g 13 x2)) (y' := 2) (by decide +kernel) (by decide) rfl (by decide +kernel) (fun hc => ?_) (fun hc => ?_)
    · have hF := hF.1 hc
      refine aw_aload_n (k' := 0) (by decide +kernel) rfl ?_
      refine aw_iload_n (k' := 1) (by decide +kernel) rfl ?_
      refine aw_callV (y := yX11_heldWeight) (M2 := mX11_heldWeight) (as := [vI x1]) (S := []) (t := 1) (d2 := d) (b2 := 0) (b3 := b) cwX11_heldWeight mlX11_259 imX11_heldWeight seX11_heldWeight (by decide +kernel) rfl (ci := 9) rfl (OB.at (ci := 9) (show shp 1 = (19, 0) by decide +kernel) (by decide)) (Nat.le_refl _) (Nat.le_of_eq (Nat.zero_add _)) rfl rfl (by simp [oneSlot]) (Nat.le_of_ble_eq_true rfl) (Ct.mono hF ?_)
      rintro o h' (⟨v1, g1, rfl, rfl, hG⟩ | ⟨E, g, rfl, rfl, hG⟩)
      · show AW Γ l mX11_areAtOdds (d + 1) b 37 [vR 1, vI x1, vI x2, vU, vU, vU] [vI v1] (stt g1) K
        refine aw_pop (by decide +kernel) trivial ?_
        refine aw_aload_n (k' := 0) (by decide +kernel) rfl ?_
        refine gfX11_58 rfl (by decide +kernel) (OB.at (ci := 9) (show shp 1 = (19, 0) by decide +kernel) (by decide)) ?_
        refine AW.topR (show RC 1 9 = 153 by decide +kernel) ?_
        refine gfX11_250 rfl (by decide +kernel) (OB.at (ci := 6) (show shp 153 = (16, 0) by decide +kernel) (by decide)) ?_
        refine AW.topR (show RC 153 3 = 156 by decide +kernel) ?_
        refine aw_iconst (n := 0) (by decide +kernel) ?_
        refine aw_callS (y := yX11_cell) (M2 := mX11_cell) (as := [vR 156, vI 0]) (S := []) (d2 := d) (b2 := 0) (b3 := b) cwX11_cell mlX11_168 stX11_cell (by decide +kernel) rfl (Nat.le_refl _) (Nat.le_of_eq (Nat.zero_add _)) rfl rfl (by simp [oneSlot]) (Nat.le_of_ble_eq_true rfl) (c_cell (show (shp 156).1 = 0 by decide +kernel) ?_)
        show AW Γ l mX11_areAtOdds (d + 1) b 49 [vR 1, vI x1, vI x2, vU, vU, vU] [vI (cel g1 156 0)] (stt g1) K
        refine aw_istore_n (k' := 3) (by decide +kernel) (by decide) ?_
        show AW Γ l mX11_areAtOdds (d + 1) b 50 [vR 1, vI x1, vI x2, vI (cel g1 156 0), vU, vU] [] (stt g1) K
        refine aw_aload_n (k' := 0) (by decide +kernel) rfl ?_
        refine gfX11_58 rfl (by decide +kernel) (OB.at (ci := 9) (show shp 1 = (19, 0) by decide +kernel) (by decide)) ?_
        refine AW.topR (show RC 1 9 = 153 by decide +kernel) ?_
        refine gfX11_250 rfl (by decide +kernel) (OB.at (ci := 6) (show shp 153 = (16, 0) by decide +kernel) (by decide)) ?_
        refine AW.topR (show RC 153 3 = 156 by decide +kernel) ?_
        refine aw_iconst (n := 4) (by decide +kernel) ?_
        refine aw_callS (y := yX11_cell) (M2 := mX11_cell) (as := [vR 156, vI 4]) (S := []) (d2 := d) (b2 := 0) (b3 := b) cwX11_cell mlX11_168 stX11_cell (by decide +kernel) rfl (Nat.le_refl _) (Nat.le_of_eq (Nat.zero_add _)) rfl rfl (by simp [oneSlot]) (Nat.le_of_ble_eq_true rfl) (c_cell (show (shp 156).1 = 0 by decide +kernel) ?_)
        show AW Γ l mX11_areAtOdds (d + 1) b 61 [vR 1, vI x1, vI x2, vI (cel g1 156 0), vU, vU] [vI (cel g1 156 4)] (stt g1) K
        refine aw_istore (i := 4) (by decide +kernel) (by decide) ?_
        show AW Γ l mX11_areAtOdds (d + 1) b 63 [vR 1, vI x1, vI x2, vI (cel g1 156 0), vI (cel g1 156 4), vU] [] (stt g1) K
        refine aw_aload_n (k' := 0) (by decide +kernel) rfl ?_
        refine gfX11_58 rfl (by decide +kernel) (OB.at (ci := 9) (show shp 1 = (19, 0) by decide +kernel) (by decide)) ?_
        refine AW.topR (show RC 1 9 = 153 by decide +kernel) ?_
        refine gfX11_250 rfl (by decide +kernel) (OB.at (ci := 6) (show shp 153 = (16, 0) by decide +kernel) (by decide)) ?_
        refine AW.topR (show RC 153 3 = 156 by decide +kernel) ?_
        refine aw_iconst (n := 5) (by decide +kernel) ?_
        refine aw_callS (y := yX11_cell) (M2 := mX11_cell) (as := [vR 156, vI 5]) (S := []) (d2 := d) (b2 := 0) (b3 := b) cwX11_cell mlX11_168 stX11_cell (by decide +kernel) rfl (Nat.le_refl _) (Nat.le_of_eq (Nat.zero_add _)) rfl rfl (by simp [oneSlot]) (Nat.le_of_ble_eq_true rfl) (c_cell (show (shp 156).1 = 0 by decide +kernel) ?_)
        show AW Γ l mX11_areAtOdds (d + 1) b 74 [vR 1, vI x1, vI x2, vI (cel g1 156 0), vI (cel g1 156 4), vU] [vI (cel g1 156 5)] (stt g1) K
        refine aw_istore (i := 5) (by decide +kernel) (by decide) ?_
        show AW Γ l mX11_areAtOdds (d + 1) b 76 [vR 1, vI x1, vI x2, vI (cel g1 156 0), vI (cel g1 156 4), vI (cel g1 156 5)] [] (stt g1) K
        refine aw_aload_n (k' := 0) (by decide +kernel) rfl ?_
        refine aw_iload_n (k' := 2) (by decide +kernel) rfl ?_
        refine aw_callV (y := yX11_heldWeight) (M2 := mX11_heldWeight) (as := [vI x2]) (S := []) (t := 1) (d2 := d) (b2 := 0) (b3 := b) cwX11_heldWeight mlX11_259 imX11_heldWeight seX11_heldWeight (by decide +kernel) rfl (ci := 9) rfl (OB.at (ci := 9) (show shp 1 = (19, 0) by decide +kernel) (by decide)) (Nat.le_refl _) (Nat.le_of_eq (Nat.zero_add _)) rfl rfl (by simp [oneSlot]) (Nat.le_of_ble_eq_true rfl) (Ct.mono hG ?_)
        rintro o h' (⟨v2, g2, rfl, rfl, hG⟩ | ⟨E, g, rfl, rfl, hG⟩)
        · show AW Γ l mX11_areAtOdds (d + 1) b 81 [vR 1, vI x1, vI x2, vI (cel g1 156 0), vI (cel g1 156 4), vI (cel g1 156 5)] [vI v2] (stt g2) K
          refine aw_pop (by decide +kernel) trivial ?_
          refine aw_iload_n (k' := 3) (by decide +kernel) rfl ?_
          refine ax_if_eq (off := 55) (tgt := 138) (x' := wr (cel g1 156 0)) (by decide +kernel) (by decide) rfl (fun hc => ?_) (fun hc => ?_)
          · have hG := hG.1 hc
            refine aw_iconst (n := 0) (by decide +kernel) ?_
            exact aw_zret (by decide +kernel) rfl rfl hG
          · have hG := hG.2 hc
            refine aw_iload_n (k' := 3) (by decide +kernel) rfl ?_
            refine aw_aload_n (k' := 0) (by decide +kernel) rfl ?_
            refine gfX11_58 rfl (by decide +kernel) (OB.at (ci := 9) (show shp 1 = (19, 0) by decide +kernel) (by decide)) ?_
            refine AW.topR (show RC 1 9 = 153 by decide +kernel) ?_
            refine gfX11_250 rfl (by decide +kernel) (OB.at (ci := 6) (show shp 153 = (16, 0) by decide +kernel) (by decide)) ?_
            refine AW.topR (show RC 153 3 = 156 by decide +kernel) ?_
            refine aw_iconst (n := 0) (by decide +kernel) ?_
            refine aw_callS (y := yX11_cell) (M2 := mX11_cell) (as := [vR 156, vI 0]) (S := [vI (cel g1 156 0)]) (d2 := d) (b2 := 0) (b3 := b) cwX11_cell mlX11_168 stX11_cell (by decide +kernel) rfl (Nat.le_refl _) (Nat.le_of_eq (Nat.zero_add _)) rfl rfl (by simp [oneSlot]) (Nat.le_of_ble_eq_true rfl) (c_cell (show (shp 156).1 = 0 by decide +kernel) ?_)
            show AW Γ l mX11_areAtOdds (d + 1) b 98 [vR 1, vI x1, vI x2, vI (cel g1 156 0), vI (cel g1 156 4), vI (cel g1 156 5)] [vI (cel g2 156 0), vI (cel g1 156 0)] (stt g2) K
            refine ax_icmp_ne (off := 40) (tgt := 138) (x' := wr (cel g1 156 0)) (y' := wr (cel g2 156 0)) (by decide +kernel) (by decide) rfl rfl (fun hc => ?_) (fun hc => ?_)
            · have hG := hG.1 hc
              refine aw_iconst (n := 0) (by decide +kernel) ?_
              exact aw_zret (by decide +kernel) rfl rfl hG
            · have hG := hG.2 hc
              refine aw_iload (i := 4) (by decide +kernel) rfl ?_
              refine aw_aload_n (k' := 0) (by decide +kernel) rfl ?_
              refine gfX11_58 rfl (by decide +kernel) (OB.at (ci := 9) (show shp 1 = (19, 0) by decide +kernel) (by decide)) ?_
              refine AW.topR (show RC 1 9 = 153 by decide +kernel) ?_
              refine gfX11_250 rfl (by decide +kernel) (OB.at (ci := 6) (show shp 153 = (16, 0) by decide +kernel) (by decide)) ?_
              refine AW.topR (show RC 153 3 = 156 by decide +kernel) ?_
              refine aw_iconst (n := 4) (by decide +kernel) ?_
              refine aw_callS (y := yX11_cell) (M2 := mX11_cell) (as := [vR 156, vI 4]) (S := [vI (cel g1 156 4)]) (d2 := d) (b2 := 0) (b3 := b) cwX11_cell mlX11_168 stX11_cell (by decide +kernel) rfl (Nat.le_refl _) (Nat.le_of_eq (Nat.zero_add _)) rfl rfl (by simp [oneSlot]) (Nat.le_of_ble_eq_true rfl) (c_cell (show (shp 156).1 = 0 by decide +kernel) ?_)
              show AW Γ l mX11_areAtOdds (d + 1) b 114 [vR 1, vI x1, vI x2, vI (cel g1 156 0), vI (cel g1 156 4), vI (cel g1 156 5)] [vI (cel g2 156 4), vI (cel g1 156 4)] (stt g2) K
              refine aw_iand (by decide +kernel) ?_
              refine ax_if_eq (off := 23) (tgt := 138) (x' := wr (iAnd (cel g1 156 4) (cel g2 156 4))) (by decide +kernel) (by decide) rfl (fun hc => ?_) (fun hc => ?_)
              · have hG := hG.1 hc
                refine aw_iconst (n := 0) (by decide +kernel) ?_
                exact aw_zret (by decide +kernel) rfl rfl hG
              · have hG := hG.2 hc
                refine aw_iload (i := 5) (by decide +kernel) rfl ?_
                refine aw_aload_n (k' := 0) (by decide +kernel) rfl ?_
                refine gfX11_58 rfl (by decide +kernel) (OB.at (ci := 9) (show shp 1 = (19, 0) by decide +kernel) (by decide)) ?_
                refine AW.topR (show RC 1 9 = 153 by decide +kernel) ?_
                refine gfX11_250 rfl (by decide +kernel) (OB.at (ci := 6) (show shp 153 = (16, 0) by decide +kernel) (by decide)) ?_
                refine AW.topR (show RC 153 3 = 156 by decide +kernel) ?_
                refine aw_iconst (n := 5) (by decide +kernel) ?_
                refine aw_callS (y := yX11_cell) (M2 := mX11_cell) (as := [vR 156, vI 5]) (S := [vI (cel g1 156 5)]) (d2 := d) (b2 := 0) (b3 := b) cwX11_cell mlX11_168 stX11_cell (by decide +kernel) rfl (Nat.le_refl _) (Nat.le_of_eq (Nat.zero_add _)) rfl rfl (by simp [oneSlot]) (Nat.le_of_ble_eq_true rfl) (c_cell (show (shp 156).1 = 0 by decide +kernel) ?_)
                show AW Γ l mX11_areAtOdds (d + 1) b 131 [vR 1, vI x1, vI x2, vI (cel g1 156 0), vI (cel g1 156 4), vI (cel g1 156 5)] [vI (cel g2 156 5), vI (cel g1 156 5)] (stt g2) K
                refine ax_icmp_eq (off := 7) (tgt := 138) (x' := wr (cel g1 156 5)) (y' := wr (cel g2 156 5)) (by decide +kernel) (by decide) rfl rfl (fun hc => ?_) (fun hc => ?_)
                · have hG := hG.1 hc
                  refine aw_iconst (n := 0) (by decide +kernel) ?_
                  exact aw_zret (by decide +kernel) rfl rfl hG
                · have hG := hG.2 hc
                  refine aw_iconst (n := 1) (by decide +kernel) ?_
                  refine aw_goto (off := 4) (tgt := 139) (by decide +kernel) (by decide) ?_
                  exact aw_zret (by decide +kernel) rfl rfl hG
        · exact hG
      · exact hG
    · have hF := hF.2 hc
      refine aw_iconst (n := 0) (by decide +kernel) ?_
      exact aw_zret (by decide +kernel) rfl rfl hF

set_option maxHeartbeats 1000000 in
theorem wpX11_fillAgainst {Γ : Cfg} {l : Launch} {d b : Nat} {g : GG} {K : Ou → HP → Prop}  (hF : AW Γ l mX11_fillAgainst (d + 1) b 2 [vR 1, vI 0, vU, vU] [] (stt g) K) : Ct Γ l (d + 1) b yX11_fillAgainst mX11_fillAgainst [vR 1] (stt g) K := by
  refine Ct.enter (L := [vR 1, vU, vU, vU]) rfl rfl rfl (by decide +kernel) (by simp [oneSlot]) (Nat.le_of_ble_eq_true rfl) rfl ?_
  refine aw_iconst (n := 0) (by decide +kernel) ?_
  refine aw_istore_n (k' := 1) (by decide +kernel) (by decide) ?_
  show AW Γ l mX11_fillAgainst (d + 1) b 2 [vR 1, vI 0, vU, vU] [] (stt g) K
  exact hF
set_option maxHeartbeats 1000000 in
theorem wpX11_fillAgainst_2 {Γ : Cfg} {l : Launch} {d b : Nat} {g : GG} {K : Ou → HP → Prop} {y1 : Int} (hF : (6 ≤ wr y1 → K (.inl vU) (stt g)) ∧ (¬ (6 ≤ wr y1) → AW Γ l mX11_fillAgainst (d + 1) b 12 [vR 1, vI y1, vI 0, vI 0] [] (stt g) K)) : AW Γ l mX11_fillAgainst (d + 1) b 2 [vR 1, vI y1, vU, vU] [] (stt g) K := by
  refine aw_iload_n (k' := 1) (by decide +kernel) rfl ?_
  refine aw_bipush (n := 6) (by decide +kernel) (by decide +kernel) ?_
  refine ax_icmp_ge (off := 54) (tgt := 59) (x' := wr y1) (y' := 6) (by decide +kernel) (by decide) rfl (by decide +kernel) (fun hc => ?_) (fun hc => ?_)
  · have hF := hF.1 hc
    exact aw_vret (by decide +kernel) rfl hF
  · have hF := hF.2 hc
    refine aw_iconst (n := 0) (by decide +kernel) ?_
    refine aw_istore_n (k' := 2) (by decide +kernel) (by decide) ?_
    show AW Γ l mX11_fillAgainst (d + 1) b 10 [vR 1, vI y1, vI 0, vU] [] (stt g) K
    refine aw_iconst (n := 0) (by decide +kernel) ?_
    refine aw_istore_n (k' := 3) (by decide +kernel) (by decide) ?_
    show AW Γ l mX11_fillAgainst (d + 1) b 12 [vR 1, vI y1, vI 0, vI 0] [] (stt g) K
    exact hF
set_option maxHeartbeats 1000000 in
theorem wpX11_fillAgainst_12 {Γ : Cfg} {l : Launch} {d b : Nat} {g : GG} {K : Ou → HP → Prop} {y1 : Int} {y2 : Int} {y3 : Int} (hF : (6 ≤ wr y3 → AW Γ l mX11_fillAgainst (d + 1) b 2 [vR 1, vI (y1 + 1), vI y2, vI y3] [] (stt (puc g 170 y1 y2)) K) ∧ (¬ (6 ≤ wr y3) → (wr y3 = wr y1 → AW Γ l mX11_fillAgainst (d + 1) b 12 [vR 1, vI y1, vI y2, vI (y3 + 1)] [] (stt g) K) ∧ (¬ (wr y3 = wr y1) → Ct Γ l d 0 yX11_areAtOdds mX11_areAtOdds [vR 1, vI y1, vI y3] (stt g) (bI (fun v1 g1 => (wr v1 = 0 → AW Γ l mX11_fillAgainst (d + 1) b 12 [vR 1, vI y1, vI y2, vI (y3 + 1)] [] (stt g1) K) ∧ (¬ (wr v1 = 0) → AW Γ l mX11_fillAgainst (d + 1) b 12 [vR 1, vI y1, vI (iOr y2 (iShl 1 y3)), vI (y3 + 1)] [] (stt g1) K)) K)))) : AW Γ l mX11_fillAgainst (d + 1) b 12 [vR 1, vI y1, vI y2, vI y3] [] (stt g) K := by
  refine aw_iload_n (k' := 3) (by decide +kernel) rfl ?_
  refine aw_bipush (n := 6) (by decide +kernel) (by decide +kernel) ?_
  refine ax_icmp_ge (off := 29) (tgt := 44) (x' := wr y3) (y' := 6) (by decide +kernel) (by decide) rfl (by decide +kernel) (fun hc => ?_) (fun hc => ?_)
  · have hF := hF.1 hc
    refine aw_aload_n (k' := 0) (by decide +kernel) rfl ?_
    refine gfX11_85 rfl (by decide +kernel) (OB.at (ci := 9) (show shp 1 = (19, 0) by decide +kernel) (by decide)) ?_
    refine AW.topR (show RC 1 13 = 170 by decide +kernel) ?_
    refine aw_iload_n (k' := 1) (by decide +kernel) rfl ?_
    refine aw_iload_n (k' := 2) (by decide +kernel) rfl ?_
    refine aw_callS (y := yX11_put) (M2 := mX11_put) (as := [vR 170, vI y1, vI y2]) (S := []) (d2 := d) (b2 := 0) (b3 := b) cwX11_put mlX11_290 stX11_put (by decide +kernel) rfl (Nat.le_refl _) (Nat.le_of_eq (Nat.zero_add _)) rfl rfl (by simp [oneSlot]) (Nat.le_of_ble_eq_true rfl) (c_put (show (shp 170).1 = 0 by decide +kernel) ?_)
    show AW Γ l mX11_fillAgainst (d + 1) b 53 [vR 1, vI y1, vI y2, vI y3] [] (stt (puc g 170 y1 y2)) K
    refine aw_iinc (i := 1) (n := 1) (by decide +kernel) rfl (by decide) ?_
    show AW Γ l mX11_fillAgainst (d + 1) b 56 [vR 1, vI (y1 + 1), vI y2, vI y3] [] (stt (puc g 170 y1 y2)) K
    refine aw_goto (off := -54) (tgt := 2) (by decide +kernel) (by decide) ?_
    exact hF
  · have hF := hF.2 hc
    refine aw_iload_n (k' := 3) (by decide +kernel) rfl ?_
    refine aw_iload_n (k' := 1) (by decide +kernel) rfl ?_
    refine ax_icmp_eq (off := 18) (tgt := 38) (x' := wr y3) (y' := wr y1) (by decide +kernel) (by decide) rfl rfl (fun hc => ?_) (fun hc => ?_)
    · have hF := hF.1 hc
      refine aw_iinc (i := 3) (n := 1) (by decide +kernel) rfl (by decide) ?_
      show AW Γ l mX11_fillAgainst (d + 1) b 41 [vR 1, vI y1, vI y2, vI (y3 + 1)] [] (stt g) K
      refine aw_goto (off := -29) (tgt := 12) (by decide +kernel) (by decide) ?_
      exact hF
    · have hF := hF.2 hc
      refine aw_aload_n (k' := 0) (by decide +kernel) rfl ?_
      refine aw_iload_n (k' := 1) (by decide +kernel) rfl ?_
      refine aw_iload_n (k' := 3) (by decide +kernel) rfl ?_
      refine aw_callV (y := yX11_areAtOdds) (M2 := mX11_areAtOdds) (as := [vI y1, vI y3]) (S := []) (t := 1) (d2 := d) (b2 := 0) (b3 := b) cwX11_areAtOdds mlX11_323 imX11_areAtOdds seX11_areAtOdds (by decide +kernel) rfl (ci := 9) rfl (OB.at (ci := 9) (show shp 1 = (19, 0) by decide +kernel) (by decide)) (Nat.le_refl _) (Nat.le_of_eq (Nat.zero_add _)) rfl rfl (by simp [oneSlot]) (Nat.le_of_ble_eq_true rfl) (Ct.mono hF ?_)
      rintro o h' (⟨v1, g1, rfl, rfl, hG⟩ | ⟨E, g, rfl, rfl, hG⟩)
      · show AW Γ l mX11_fillAgainst (d + 1) b 29 [vR 1, vI y1, vI y2, vI y3] [vI v1] (stt g1) K
        refine ax_if_eq (off := 9) (tgt := 38) (x' := wr v1) (by decide +kernel) (by decide) rfl (fun hc => ?_) (fun hc => ?_)
        · have hG := hG.1 hc
          refine aw_iinc (i := 3) (n := 1) (by decide +kernel) rfl (by decide) ?_
          show AW Γ l mX11_fillAgainst (d + 1) b 41 [vR 1, vI y1, vI y2, vI (y3 + 1)] [] (stt g1) K
          refine aw_goto (off := -29) (tgt := 12) (by decide +kernel) (by decide) ?_
          exact hG
        · have hG := hG.2 hc
          refine aw_iload_n (k' := 2) (by decide +kernel) rfl ?_
          refine aw_iconst (n := 1) (by decide +kernel) ?_
          refine aw_iload_n (k' := 3) (by decide +kernel) rfl ?_
          refine aw_ishl (by decide +kernel) ?_
          refine aw_ior (by decide +kernel) ?_
          refine aw_istore_n (k' := 2) (by decide +kernel) (by decide) ?_
          show AW Γ l mX11_fillAgainst (d + 1) b 38 [vR 1, vI y1, vI (iOr y2 (iShl 1 y3)), vI y3] [] (stt g1) K
          refine aw_iinc (i := 3) (n := 1) (by decide +kernel) rfl (by decide) ?_
          show AW Γ l mX11_fillAgainst (d + 1) b 41 [vR 1, vI y1, vI (iOr y2 (iShl 1 y3)), vI (y3 + 1)] [] (stt g1) K
          refine aw_goto (off := -29) (tgt := 12) (by decide +kernel) (by decide) ?_
          exact hG
      · exact hG

set_option maxHeartbeats 1000000 in
theorem wpX11_isPeaceful {Γ : Cfg} {l : Launch} {d b : Nat} {g : GG} {K : Ou → HP → Prop} {x1 : Int} (hF : AW Γ l mX11_isPeaceful (d + 1) b 2 [vR 1, vI x1, vI 0] [] (stt g) K) : Ct Γ l (d + 1) b yX11_isPeaceful mX11_isPeaceful [vR 1, vI x1] (stt g) K := by
  refine Ct.enter (L := [vR 1, vI x1, vU]) rfl rfl rfl (by decide +kernel) (by simp [oneSlot]) (Nat.le_of_ble_eq_true rfl) rfl ?_
  refine aw_iconst (n := 0) (by decide +kernel) ?_
  refine aw_istore_n (k' := 2) (by decide +kernel) (by decide) ?_
  show AW Γ l mX11_isPeaceful (d + 1) b 2 [vR 1, vI x1, vI 0] [] (stt g) K
  exact hF
set_option maxHeartbeats 1000000 in
theorem wpX11_isPeaceful_2 {Γ : Cfg} {l : Launch} {d b : Nat} {g : GG} {K : Ou → HP → Prop} {x1 : Int} {y2 : Int} (hF : (6 ≤ wr y2 → K (.inl (vI 1)) (stt g)) ∧ (¬ (6 ≤ wr y2) → (wr (iAnd (iShr x1 y2) 1) = 0 → AW Γ l mX11_isPeaceful (d + 1) b 2 [vR 1, vI x1, vI (y2 + 1)] [] (stt g) K) ∧ (¬ (wr (iAnd (iShr x1 y2) 1) = 0) → (wr (iAnd x1 (cel g 170 y2)) = 0 → AW Γ l mX11_isPeaceful (d + 1) b 2 [vR 1, vI x1, vI (y2 + 1)] [] (stt g) K) ∧ (¬ (wr (iAnd x1 (cel g 170 y2)) = 0) → K (.inl (vI 0)) (stt g))))) : AW Γ l mX11_isPeaceful (d + 1) b 2 [vR 1, vI x1, vI y2] [] (stt g) K := by
  refine aw_iload_n (k' := 2) (by decide +kernel) rfl ?_
  refine aw_bipush (n := 6) (by decide +kernel) (by decide +kernel) ?_
  refine ax_icmp_ge (off := 32) (tgt := 37) (x' := wr y2) (y' := 6) (by decide +kernel) (by decide) rfl (by decide +kernel) (fun hc => ?_) (fun hc => ?_)
  · have hF := hF.1 hc
    refine aw_iconst (n := 1) (by decide +kernel) ?_
    exact aw_zret (by decide +kernel) rfl rfl hF
  · have hF := hF.2 hc
    refine aw_iload_n (k' := 1) (by decide +kernel) rfl ?_
    refine aw_iload_n (k' := 2) (by decide +kernel) rfl ?_
    refine aw_ishr (by decide +kernel) ?_
    refine aw_iconst (n := 1) (by decide +kernel) ?_
    refine aw_iand (by decide +kernel) ?_
    refine ax_if_eq (off := 18) (tgt := 31) (x' := wr (iAnd (iShr x1 y2) 1)) (by decide +kernel) (by decide) rfl (fun hc => ?_) (fun hc => ?_)
    · have hF := hF.1 hc
      refine aw_iinc (i := 2) (n := 1) (by decide +kernel) rfl (by decide) ?_
      show AW Γ l mX11_isPeaceful (d + 1) b 34 [vR 1, vI x1, vI (y2 + 1)] [] (stt g) K
      refine aw_goto (off := -32) (tgt := 2) (by decide +kernel) (by decide) ?_
      exact hF
    · have hF := hF.2 hc
      refine aw_iload_n (k' := 1) (by decide +kernel) rfl ?_
      refine aw_aload_n (k' := 0) (by decide +kernel) rfl ?_
      refine gfX11_85 rfl (by decide +kernel) (OB.at (ci := 9) (show shp 1 = (19, 0) by decide +kernel) (by decide)) ?_
      refine AW.topR (show RC 1 13 = 170 by decide +kernel) ?_
      refine aw_iload_n (k' := 2) (by decide +kernel) rfl ?_
      refine aw_callS (y := yX11_cell) (M2 := mX11_cell) (as := [vR 170, vI y2]) (S := [vI x1]) (d2 := d) (b2 := 0) (b3 := b) cwX11_cell mlX11_168 stX11_cell (by decide +kernel) rfl (Nat.le_refl _) (Nat.le_of_eq (Nat.zero_add _)) rfl rfl (by simp [oneSlot]) (Nat.le_of_ble_eq_true rfl) (c_cell (show (shp 170).1 = 0 by decide +kernel) ?_)
      show AW Γ l mX11_isPeaceful (d + 1) b 25 [vR 1, vI x1, vI y2] [vI (cel g 170 y2), vI x1] (stt g) K
      refine aw_iand (by decide +kernel) ?_
      refine ax_if_eq (off := 5) (tgt := 31) (x' := wr (iAnd x1 (cel g 170 y2))) (by decide +kernel) (by decide) rfl (fun hc => ?_) (fun hc => ?_)
      · have hF := hF.1 hc
        refine aw_iinc (i := 2) (n := 1) (by decide +kernel) rfl (by decide) ?_
        show AW Γ l mX11_isPeaceful (d + 1) b 34 [vR 1, vI x1, vI (y2 + 1)] [] (stt g) K
        refine aw_goto (off := -32) (tgt := 2) (by decide +kernel) (by decide) ?_
        exact hF
      · have hF := hF.2 hc
        refine aw_iconst (n := 0) (by decide +kernel) ?_
        exact aw_zret (by decide +kernel) rfl rfl hF

set_option maxHeartbeats 1000000 in
theorem wpX11_whose {Γ : Cfg} {l : Launch} {d b : Nat} {g : GG} {K : Ou → HP → Prop}  (hb : 1 ≤ b) (hF : Ct Γ l d 1 yX11_takeHeardRows mX11_takeHeardRows [vR 1] (stt g) (bI (fun v1 g1 => Ct Γ l d 0 yX11_fittingBits mX11_fittingBits [vR 1, vI v1] (stt g1) (bI (fun v2 g2 => K (.inl (vI v2)) (stt g2)) K)) K)) : Ct Γ l (d + 1) b yX11_whose mX11_whose [vR 1] (stt g) K := by
  refine Ct.enter (L := [vR 1]) rfl rfl rfl (by decide +kernel) (by simp [oneSlot]) (Nat.le_of_ble_eq_true rfl) rfl ?_
  refine aw_aload_n (k' := 0) (by decide +kernel) rfl ?_
  refine aw_aload_n (k' := 0) (by decide +kernel) rfl ?_
  refine aw_callV (y := yX11_takeHeardRows) (M2 := mX11_takeHeardRows) (as := []) (S := [vR 1]) (t := 1) (d2 := d) (b2 := 1) (b3 := b - 1) cwX11_takeHeardRows mlX11_341 imX11_takeHeardRows seX11_takeHeardRows (by decide +kernel) rfl (ci := 9) rfl (OB.at (ci := 9) (show shp 1 = (19, 0) by decide +kernel) (by decide)) (Nat.le_refl _) (by omega) rfl rfl (by simp [oneSlot]) (Nat.le_of_ble_eq_true rfl) (Ct.mono hF ?_)
  rintro o h' (⟨v1, g1, rfl, rfl, hG⟩ | ⟨E, g, rfl, rfl, hG⟩)
  · show AW Γ l mX11_whose (d + 1) (b - 1) 5 [vR 1] [vI v1, vR 1] (stt g1) K
    refine aw_callV (y := yX11_fittingBits) (M2 := mX11_fittingBits) (as := [vI v1]) (S := []) (t := 1) (d2 := d) (b2 := 0) (b3 := b - 1) cwX11_fittingBits mlX11_344 imX11_fittingBits seX11_fittingBits (by decide +kernel) rfl (ci := 9) rfl (OB.at (ci := 9) (show shp 1 = (19, 0) by decide +kernel) (by decide)) (Nat.le_refl _) (Nat.le_of_eq (Nat.zero_add _)) rfl rfl (by simp [oneSlot]) (Nat.le_of_ble_eq_true rfl) (Ct.mono hG ?_)
    rintro o h' (⟨v2, g2, rfl, rfl, hG⟩ | ⟨E, g, rfl, rfl, hG⟩)
    · show AW Γ l mX11_whose (d + 1) (b - 1) 8 [vR 1] [vI v2] (stt g2) K
      exact aw_iret (by decide +kernel) rfl hG
    · exact hG
  · exact hG

set_option maxHeartbeats 1000000 in
theorem wpX11_likely {Γ : Cfg} {l : Launch} {d b : Nat} {g : GG} {K : Ou → HP → Prop}  (hb : 1 ≤ b) (hF : Ct Γ l d 1 yX11_takeHeardRows mX11_takeHeardRows [vR 1] (stt g) (bI (fun v1 g1 => AW Γ l mX11_likely (d + 1) (b - 1) 12 [vR 1, vI v1, vI (-1), vI 2, vI 0, vU] [] (stt g1) K) K)) : Ct Γ l (d + 1) b yX11_likely mX11_likely [vR 1] (stt g) K := by
  refine Ct.enter (L := [vR 1, vU, vU, vU, vU, vU]) rfl rfl rfl (by decide +kernel) (by simp [oneSlot]) (Nat.le_of_ble_eq_true rfl) rfl ?_
  refine aw_aload_n (k' := 0) (by decide +kernel) rfl ?_
  refine aw_callV (y := yX11_takeHeardRows) (M2 := mX11_takeHeardRows) (as := []) (S := []) (t := 1) (d2 := d) (b2 := 1) (b3 := b - 1) cwX11_takeHeardRows mlX11_341 imX11_takeHeardRows seX11_takeHeardRows (by decide +kernel) rfl (ci := 9) rfl (OB.at (ci := 9) (show shp 1 = (19, 0) by decide +kernel) (by decide)) (Nat.le_refl _) (by omega) rfl rfl (by simp [oneSlot]) (Nat.le_of_ble_eq_true rfl) (Ct.mono hF ?_)
  rintro o h' (⟨v1, g1, rfl, rfl, hG⟩ | ⟨E, g, rfl, rfl, hG⟩)
  · show AW Γ l mX11_likely (d + 1) (b - 1) 4 [vR 1, vU, vU, vU, vU, vU] [vI v1] (stt g1) K
    refine aw_istore_n (k' := 1) (by decide +kernel) (by decide) ?_
    show AW Γ l mX11_likely (d + 1) (b - 1) 5 [vR 1, vI v1, vU, vU, vU, vU] [] (stt g1) K
    refine aw_iconst (n := -1) (by decide +kernel) ?_
    refine aw_istore_n (k' := 2) (by decide +kernel) (by decide) ?_
    show AW Γ l mX11_likely (d + 1) (b - 1) 7 [vR 1, vI v1, vI (-1), vU, vU, vU] [] (stt g1) K
    refine aw_iconst (n := 2) (by decide +kernel) ?_
    refine aw_istore_n (k' := 3) (by decide +kernel) (by decide) ?_
    show AW Γ l mX11_likely (d + 1) (b - 1) 9 [vR 1, vI v1, vI (-1), vI 2, vU, vU] [] (stt g1) K
    refine aw_iconst (n := 0) (by decide +kernel) ?_
    refine aw_istore (i := 4) (by decide +kernel) (by decide) ?_
    show AW Γ l mX11_likely (d + 1) (b - 1) 12 [vR 1, vI v1, vI (-1), vI 2, vI 0, vU] [] (stt g1) K
    exact hG
  · exact hG
set_option maxHeartbeats 1000000 in
theorem wpX11_likely_12 {Γ : Cfg} {l : Launch} {d b : Nat} {g : GG} {K : Ou → HP → Prop} {y1 : Int} {y2 : Int} {y3 : Int} {y4 : Int} (hb : 1 ≤ b) (hF : (wr (g 8 8) ≤ wr y4 → K (.inl (vI y2)) (stt g)) ∧ (¬ (wr (g 8 8) ≤ wr y4) → Ct Γ l d 0 yX11_wrongRows mX11_wrongRows [vR 1, vI y4, vI y1] (stt g) (bI (fun v1 g1 => (wr y3 ≤ wr v1 → AW Γ l mX11_likely (d + 1) b 12 [vR 1, vI y1, vI y2, vI y3, vI (y4 + 1), vI v1] [] (stt g1) K) ∧ (¬ (wr y3 ≤ wr v1) → AW Γ l mX11_likely (d + 1) b 12 [vR 1, vI y1, vI y4, vI v1, vI (y4 + 1), vI v1] [] (stt g1) K)) K))) : AW Γ l mX11_likely (d + 1) b 12 [vR 1, vI y1, vI y2, vI y3, vI y4, vU] [] (stt g) K := by
  refine aw_iload (i := 4) (by decide +kernel) rfl ?_
  refine aw_aload_n (k' := 0) (by decide +kernel) rfl ?_
  refine gfX11_26 rfl (by decide +kernel) (OB.at (ci := 9) (show shp 1 = (19, 0) by decide +kernel) (by decide)) ?_
  refine AW.topR (show RC 1 2 = 8 by decide +kernel) ?_
  refine gfX11_253 rfl (by decide +kernel) (OB.at (ci := 2) (show shp 8 = (12, 0) by decide +kernel) (by decide)) ?_
  refine ax_icmp_ge (off := 30) (tgt := 51) (x' := wr y4) (y' := wr (g 8 8)) (by decide +kernel) (by decide) rfl rfl (fun hc => ?_) (fun hc => ?_)
  · have hF := hF.1 hc
    refine aw_iload_n (k' := 2) (by decide +kernel) rfl ?_
    exact aw_iret (by decide +kernel) rfl hF
  · have hF := hF.2 hc
    refine aw_aload_n (k' := 0) (by decide +kernel) rfl ?_
    refine aw_iload (i := 4) (by decide +kernel) rfl ?_
    refine aw_iload_n (k' := 1) (by decide +kernel) rfl ?_
    refine aw_callV (y := yX11_wrongRows) (M2 := mX11_wrongRows) (as := [vI y4, vI y1]) (S := []) (t := 1) (d2 := d) (b2 := 0) (b3 := b) cwX11_wrongRows mlX11_347 imX11_wrongRows seX11_wrongRows (by decide +kernel) rfl (ci := 9) rfl (OB.at (ci := 9) (show shp 1 = (19, 0) by decide +kernel) (by decide)) (Nat.le_refl _) (Nat.le_of_eq (Nat.zero_add _)) rfl rfl (by simp [oneSlot]) (Nat.le_of_ble_eq_true rfl) (Ct.mono hF ?_)
    rintro o h' (⟨v1, g1, rfl, rfl, hG⟩ | ⟨E, g, rfl, rfl, hG⟩)
    · show AW Γ l mX11_likely (d + 1) b 31 [vR 1, vI y1, vI y2, vI y3, vI y4, vU] [vI v1] (stt g1) K
      refine aw_istore (i := 5) (by decide +kernel) (by decide) ?_
      show AW Γ l mX11_likely (d + 1) b 33 [vR 1, vI y1, vI y2, vI y3, vI y4, vI v1] [] (stt g1) K
      refine aw_iload (i := 5) (by decide +kernel) rfl ?_
      refine aw_iload_n (k' := 3) (by decide +kernel) rfl ?_
      refine ax_icmp_ge (off := 9) (tgt := 45) (x' := wr v1) (y' := wr y3) (by decide +kernel) (by decide) rfl rfl (fun hc => ?_) (fun hc => ?_)
      · have hG := hG.1 hc
        refine aw_iinc (i := 4) (n := 1) (by decide +kernel) rfl (by decide) ?_
        show AW Γ l mX11_likely (d + 1) b 48 [vR 1, vI y1, vI y2, vI y3, vI (y4 + 1), vI v1] [] (stt g1) K
        refine aw_goto (off := -36) (tgt := 12) (by decide +kernel) (by decide) ?_
        exact hG
      · have hG := hG.2 hc
        refine aw_iload (i := 5) (by decide +kernel) rfl ?_
        refine aw_istore_n (k' := 3) (by decide +kernel) (by decide) ?_
        show AW Γ l mX11_likely (d + 1) b 42 [vR 1, vI y1, vI y2, vI v1, vI y4, vI v1] [] (stt g1) K
        refine aw_iload (i := 4) (by decide +kernel) rfl ?_
        refine aw_istore_n (k' := 2) (by decide +kernel) (by decide) ?_
        show AW Γ l mX11_likely (d + 1) b 45 [vR 1, vI y1, vI y4, vI v1, vI y4, vI v1] [] (stt g1) K
        refine aw_iinc (i := 4) (n := 1) (by decide +kernel) rfl (by decide) ?_
        show AW Γ l mX11_likely (d + 1) b 48 [vR 1, vI y1, vI y4, vI v1, vI (y4 + 1), vI v1] [] (stt g1) K
        refine aw_goto (off := -36) (tgt := 12) (by decide +kernel) (by decide) ?_
        exact hG
    · exact hG

set_option maxHeartbeats 1000000 in
theorem wpX11_ask {Γ : Cfg} {l : Launch} {d b : Nat} {g : GG} {K : Ou → HP → Prop}  (hb : 1 ≤ b) (hF : Ct Γ l d 1 yX11_takeHeardRows mX11_takeHeardRows [vR 1] (stt g) (bI (fun v1 g1 => Ct Γ l d 0 yX11_fittingBits mX11_fittingBits [vR 1, vI v1] (stt g1) (bI (fun v2 g2 => (2 ≤ wr (iBC v2) → AW Γ l mX11_ask (d + 1) (b - 1) 27 [vR 1, vI v2, vI 0, vI 7, vI 0, vU] [] (stt g2) K) ∧ (¬ (2 ≤ wr (iBC v2)) → K (.inl (vI (-1))) (stt g2))) K)) K)) : Ct Γ l (d + 1) b yX11_ask mX11_ask [vR 1] (stt g) K := by
  refine Ct.enter (L := [vR 1, vU, vU, vU, vU, vU]) rfl rfl rfl (by decide +kernel) (by simp [oneSlot]) (Nat.le_of_ble_eq_true rfl) rfl ?_
  refine aw_aload_n (k' := 0) (by decide +kernel) rfl ?_
  refine aw_aload_n (k' := 0) (by decide +kernel) rfl ?_
  refine aw_callV (y := yX11_takeHeardRows) (M2 := mX11_takeHeardRows) (as := []) (S := [vR 1]) (t := 1) (d2 := d) (b2 := 1) (b3 := b - 1) cwX11_takeHeardRows mlX11_341 imX11_takeHeardRows seX11_takeHeardRows (by decide +kernel) rfl (ci := 9) rfl (OB.at (ci := 9) (show shp 1 = (19, 0) by decide +kernel) (by decide)) (Nat.le_refl _) (by omega) rfl rfl (by simp [oneSlot]) (Nat.le_of_ble_eq_true rfl) (Ct.mono hF ?_)
  rintro o h' (⟨v1, g1, rfl, rfl, hG⟩ | ⟨E, g, rfl, rfl, hG⟩)
  · show AW Γ l mX11_ask (d + 1) (b - 1) 5 [vR 1, vU, vU, vU, vU, vU] [vI v1, vR 1] (stt g1) K
    refine aw_callV (y := yX11_fittingBits) (M2 := mX11_fittingBits) (as := [vI v1]) (S := []) (t := 1) (d2 := d) (b2 := 0) (b3 := b - 1) cwX11_fittingBits mlX11_344 imX11_fittingBits seX11_fittingBits (by decide +kernel) rfl (ci := 9) rfl (OB.at (ci := 9) (show shp 1 = (19, 0) by decide +kernel) (by decide)) (Nat.le_refl _) (Nat.le_of_eq (Nat.zero_add _)) rfl rfl (by simp [oneSlot]) (Nat.le_of_ble_eq_true rfl) (Ct.mono hG ?_)
    rintro o h' (⟨v2, g2, rfl, rfl, hG⟩ | ⟨E, g, rfl, rfl, hG⟩)
    · show AW Γ l mX11_ask (d + 1) (b - 1) 8 [vR 1, vU, vU, vU, vU, vU] [vI v2] (stt g2) K
      refine aw_istore_n (k' := 1) (by decide +kernel) (by decide) ?_
      show AW Γ l mX11_ask (d + 1) (b - 1) 9 [vR 1, vI v2, vU, vU, vU, vU] [] (stt g2) K
      refine aw_iload_n (k' := 1) (by decide +kernel) rfl ?_
      refine aw_callS (y := yJ6_bitCount_0f7a4) (M2 := mJ6_bitCount_0f7a4) (as := [vI v2]) (S := []) (d2 := d) (b2 := 0) (b3 := b - 1) cwJ6_bitCount_0f7a4 mlX11_333 stJ6_bitCount_0f7a4 (by decide +kernel) rfl (Nat.le_refl _) (Nat.le_of_eq (Nat.zero_add _)) rfl rfl (by simp [oneSlot]) (Nat.le_of_ble_eq_true rfl) (c_bitCount ?_)
      show AW Γ l mX11_ask (d + 1) (b - 1) 13 [vR 1, vI v2, vU, vU, vU, vU] [vI (iBC v2)] (stt g2) K
      refine aw_iconst (n := 2) (by decide +kernel) ?_
      refine ax_icmp_ge (off := 5) (tgt := 19) (x' := wr (iBC v2)) (y' := 2) (by decide +kernel) (by decide) rfl (by decide +kernel) (fun hc => ?_) (fun hc => ?_)
      · have hG := hG.1 hc
        refine aw_iconst (n := 0) (by decide +kernel) ?_
        refine aw_istore_n (k' := 2) (by decide +kernel) (by decide) ?_
        show AW Γ l mX11_ask (d + 1) (b - 1) 21 [vR 1, vI v2, vI 0, vU, vU, vU] [] (stt g2) K
        refine aw_bipush (n := 7) (by decide +kernel) (by decide +kernel) ?_
        refine aw_istore_n (k' := 3) (by decide +kernel) (by decide) ?_
        show AW Γ l mX11_ask (d + 1) (b - 1) 24 [vR 1, vI v2, vI 0, vI 7, vU, vU] [] (stt g2) K
        refine aw_iconst (n := 0) (by decide +kernel) ?_
        refine aw_istore (i := 4) (by decide +kernel) (by decide) ?_
        show AW Γ l mX11_ask (d + 1) (b - 1) 27 [vR 1, vI v2, vI 0, vI 7, vI 0, vU] [] (stt g2) K
        exact hG
      · have hG := hG.2 hc
        refine aw_iconst (n := -1) (by decide +kernel) ?_
        exact aw_iret (by decide +kernel) rfl hG
    · exact hG
  · exact hG
set_option maxHeartbeats 1000000 in
theorem wpX11_ask_27 {Γ : Cfg} {l : Launch} {d b : Nat} {g : GG} {K : Ou → HP → Prop} {y1 : Int} {y2 : Int} {y3 : Int} {y4 : Int} (hb : 1 ≤ b) (hF : (12 ≤ wr y4 → K (.inl (vI y2)) (stt g)) ∧ (¬ (12 ≤ wr y4) → Ct Γ l d 0 yX11_greatestPart mX11_greatestPart [vR 1, vI y1, vI y4] (stt g) (bI (fun v1 g1 => (wr y3 ≤ wr v1 → AW Γ l mX11_ask (d + 1) b 27 [vR 1, vI y1, vI y2, vI y3, vI (y4 + 1), vI v1] [] (stt g1) K) ∧ (¬ (wr y3 ≤ wr v1) → AW Γ l mX11_ask (d + 1) b 27 [vR 1, vI y1, vI y4, vI v1, vI (y4 + 1), vI v1] [] (stt g1) K)) K))) : AW Γ l mX11_ask (d + 1) b 27 [vR 1, vI y1, vI y2, vI y3, vI y4, vU] [] (stt g) K := by
  refine aw_iload (i := 4) (by decide +kernel) rfl ?_
  refine aw_bipush (n := 12) (by decide +kernel) (by decide +kernel) ?_
  refine ax_icmp_ge (off := 30) (tgt := 61) (x' := wr y4) (y' := 12) (by decide +kernel) (by decide) rfl (by decide +kernel) (fun hc => ?_) (fun hc => ?_)
  · have hF := hF.1 hc
    refine aw_iload_n (k' := 2) (by decide +kernel) rfl ?_
    exact aw_iret (by decide +kernel) rfl hF
  · have hF := hF.2 hc
    refine aw_aload_n (k' := 0) (by decide +kernel) rfl ?_
    refine aw_iload_n (k' := 1) (by decide +kernel) rfl ?_
    refine aw_iload (i := 4) (by decide +kernel) rfl ?_
    refine aw_callV (y := yX11_greatestPart) (M2 := mX11_greatestPart) (as := [vI y1, vI y4]) (S := []) (t := 1) (d2 := d) (b2 := 0) (b3 := b) cwX11_greatestPart mlX11_350 imX11_greatestPart seX11_greatestPart (by decide +kernel) rfl (ci := 9) rfl (OB.at (ci := 9) (show shp 1 = (19, 0) by decide +kernel) (by decide)) (Nat.le_refl _) (Nat.le_of_eq (Nat.zero_add _)) rfl rfl (by simp [oneSlot]) (Nat.le_of_ble_eq_true rfl) (Ct.mono hF ?_)
    rintro o h' (⟨v1, g1, rfl, rfl, hG⟩ | ⟨E, g, rfl, rfl, hG⟩)
    · show AW Γ l mX11_ask (d + 1) b 41 [vR 1, vI y1, vI y2, vI y3, vI y4, vU] [vI v1] (stt g1) K
      refine aw_istore (i := 5) (by decide +kernel) (by decide) ?_
      show AW Γ l mX11_ask (d + 1) b 43 [vR 1, vI y1, vI y2, vI y3, vI y4, vI v1] [] (stt g1) K
      refine aw_iload (i := 5) (by decide +kernel) rfl ?_
      refine aw_iload_n (k' := 3) (by decide +kernel) rfl ?_
      refine ax_icmp_ge (off := 9) (tgt := 55) (x' := wr v1) (y' := wr y3) (by decide +kernel) (by decide) rfl rfl (fun hc => ?_) (fun hc => ?_)
      · have hG := hG.1 hc
        refine aw_iinc (i := 4) (n := 1) (by decide +kernel) rfl (by decide) ?_
        show AW Γ l mX11_ask (d + 1) b 58 [vR 1, vI y1, vI y2, vI y3, vI (y4 + 1), vI v1] [] (stt g1) K
        refine aw_goto (off := -31) (tgt := 27) (by decide +kernel) (by decide) ?_
        exact hG
      · have hG := hG.2 hc
        refine aw_iload (i := 5) (by decide +kernel) rfl ?_
        refine aw_istore_n (k' := 3) (by decide +kernel) (by decide) ?_
        show AW Γ l mX11_ask (d + 1) b 52 [vR 1, vI y1, vI y2, vI v1, vI y4, vI v1] [] (stt g1) K
        refine aw_iload (i := 4) (by decide +kernel) rfl ?_
        refine aw_istore_n (k' := 2) (by decide +kernel) (by decide) ?_
        show AW Γ l mX11_ask (d + 1) b 55 [vR 1, vI y1, vI y4, vI v1, vI y4, vI v1] [] (stt g1) K
        refine aw_iinc (i := 4) (n := 1) (by decide +kernel) rfl (by decide) ?_
        show AW Γ l mX11_ask (d + 1) b 58 [vR 1, vI y1, vI y4, vI v1, vI (y4 + 1), vI v1] [] (stt g1) K
        refine aw_goto (off := -31) (tgt := 27) (by decide +kernel) (by decide) ?_
        exact hG
    · exact hG

set_option maxHeartbeats 1000000 in
theorem wpX11_coughs {Γ : Cfg} {l : Launch} {d b : Nat} {g : GG} {K : Ou → HP → Prop} {x1 : Int} (hb : 1 ≤ b) (hF : Ct Γ l d 1 yX11_takeCoughs mX11_takeCoughs [vR 1, vI x1] (stt g) (bI (fun v1 g1 => Ct Γ l d 0 yX11_bestCough mX11_bestCough [vI v1, vI x1] (stt g1) (bI (fun v2 g2 => (wr v2 = -1 → K (.inl (vI 0)) (stt g2)) ∧ (¬ (wr v2 = -1) → K (.inl (vI 1)) (stt g2))) K)) K)) : Ct Γ l (d + 1) b yX11_coughs mX11_coughs [vR 1, vI x1] (stt g) K := by
  refine Ct.enter (L := [vR 1, vI x1]) rfl rfl rfl (by decide +kernel) (by simp [oneSlot]) (Nat.le_of_ble_eq_true rfl) rfl ?_
  refine aw_aload_n (k' := 0) (by decide +kernel) rfl ?_
  refine aw_iload_n (k' := 1) (by decide +kernel) rfl ?_
  refine aw_callV (y := yX11_takeCoughs) (M2 := mX11_takeCoughs) (as := [vI x1]) (S := []) (t := 1) (d2 := d) (b2 := 1) (b3 := b - 1) cwX11_takeCoughs mlX11_353 imX11_takeCoughs seX11_takeCoughs (by decide +kernel) rfl (ci := 9) rfl (OB.at (ci := 9) (show shp 1 = (19, 0) by decide +kernel) (by decide)) (Nat.le_refl _) (by omega) rfl rfl (by simp [oneSlot]) (Nat.le_of_ble_eq_true rfl) (Ct.mono hF ?_)
  rintro o h' (⟨v1, g1, rfl, rfl, hG⟩ | ⟨E, g, rfl, rfl, hG⟩)
  · show AW Γ l mX11_coughs (d + 1) (b - 1) 5 [vR 1, vI x1] [vI v1] (stt g1) K
    refine aw_iload_n (k' := 1) (by decide +kernel) rfl ?_
    refine aw_callS (y := yX11_bestCough) (M2 := mX11_bestCough) (as := [vI v1, vI x1]) (S := []) (d2 := d) (b2 := 0) (b3 := b - 1) cwX11_bestCough mlX11_356 stX11_bestCough (by decide +kernel) rfl (Nat.le_refl _) (Nat.le_of_eq (Nat.zero_add _)) rfl rfl (by simp [oneSlot]) (Nat.le_of_ble_eq_true rfl) (Ct.mono hG ?_)
    rintro o h' (⟨v2, g2, rfl, rfl, hG⟩ | ⟨E, g, rfl, rfl, hG⟩)
    · show AW Γ l mX11_coughs (d + 1) (b - 1) 9 [vR 1, vI x1] [vI v2] (stt g2) K
      refine aw_iconst (n := -1) (by decide +kernel) ?_
      refine ax_icmp_eq (off := 7) (tgt := 17) (x' := wr v2) (y' := -1) (by decide +kernel) (by decide) rfl (by decide +kernel) (fun hc => ?_) (fun hc => ?_)
      · have hG := hG.1 hc
        refine aw_iconst (n := 0) (by decide +kernel) ?_
        exact aw_zret (by decide +kernel) rfl rfl hG
      · have hG := hG.2 hc
        refine aw_iconst (n := 1) (by decide +kernel) ?_
        refine aw_goto (off := 4) (tgt := 18) (by decide +kernel) (by decide) ?_
        exact aw_zret (by decide +kernel) rfl rfl hG
    · exact hG
  · exact hG

set_option maxHeartbeats 1000000 in
theorem wpX11_first {Γ : Cfg} {l : Launch} {d b : Nat} {g : GG} {K : Ou → HP → Prop} {x1 : Int} (hb : 1 ≤ b) (hF : Ct Γ l d 1 yX11_takeCoughs mX11_takeCoughs [vR 1, vI x1] (stt g) (bI (fun v1 g1 => Ct Γ l d 0 yX11_bestCough mX11_bestCough [vI v1, vI x1] (stt g1) (bI (fun v2 g2 => (wr v2 ≤ 0 → K (.inl (vI (-1))) (stt g2)) ∧ (¬ (wr v2 ≤ 0) → K (.inl (vI v2)) (stt g2))) K)) K)) : Ct Γ l (d + 1) b yX11_first mX11_first [vR 1, vI x1] (stt g) K := by
  refine Ct.enter (L := [vR 1, vI x1, vU]) rfl rfl rfl (by decide +kernel) (by simp [oneSlot]) (Nat.le_of_ble_eq_true rfl) rfl ?_
  refine aw_aload_n (k' := 0) (by decide +kernel) rfl ?_
  refine aw_iload_n (k' := 1) (by decide +kernel) rfl ?_
  refine aw_callV (y := yX11_takeCoughs) (M2 := mX11_takeCoughs) (as := [vI x1]) (S := []) (t := 1) (d2 := d) (b2 := 1) (b3 := b - 1) cwX11_takeCoughs mlX11_353 imX11_takeCoughs seX11_takeCoughs (by decide +kernel) rfl (ci := 9) rfl (OB.at (ci := 9) (show shp 1 = (19, 0) by decide +kernel) (by decide)) (Nat.le_refl _) (by omega) rfl rfl (by simp [oneSlot]) (Nat.le_of_ble_eq_true rfl) (Ct.mono hF ?_)
  rintro o h' (⟨v1, g1, rfl, rfl, hG⟩ | ⟨E, g, rfl, rfl, hG⟩)
  · show AW Γ l mX11_first (d + 1) (b - 1) 5 [vR 1, vI x1, vU] [vI v1] (stt g1) K
    refine aw_iload_n (k' := 1) (by decide +kernel) rfl ?_
    refine aw_callS (y := yX11_bestCough) (M2 := mX11_bestCough) (as := [vI v1, vI x1]) (S := []) (d2 := d) (b2 := 0) (b3 := b - 1) cwX11_bestCough mlX11_356 stX11_bestCough (by decide +kernel) rfl (Nat.le_refl _) (Nat.le_of_eq (Nat.zero_add _)) rfl rfl (by simp [oneSlot]) (Nat.le_of_ble_eq_true rfl) (Ct.mono hG ?_)
    rintro o h' (⟨v2, g2, rfl, rfl, hG⟩ | ⟨E, g, rfl, rfl, hG⟩)
    · show AW Γ l mX11_first (d + 1) (b - 1) 9 [vR 1, vI x1, vU] [vI v2] (stt g2) K
      refine aw_istore_n (k' := 2) (by decide +kernel) (by decide) ?_
      show AW Γ l mX11_first (d + 1) (b - 1) 10 [vR 1, vI x1, vI v2] [] (stt g2) K
      refine aw_iload_n (k' := 2) (by decide +kernel) rfl ?_
      refine ax_if_le (off := 7) (tgt := 18) (x' := wr v2) (by decide +kernel) (by decide) rfl (fun hc => ?_) (fun hc => ?_)
      · have hG := hG.1 hc
        refine aw_iconst (n := -1) (by decide +kernel) ?_
        exact aw_iret (by decide +kernel) rfl hG
      · have hG := hG.2 hc
        refine aw_iload_n (k' := 2) (by decide +kernel) rfl ?_
        refine aw_goto (off := 4) (tgt := 19) (by decide +kernel) (by decide) ?_
        exact aw_iret (by decide +kernel) rfl hG
    · exact hG
  · exact hG

set_option maxHeartbeats 1000000 in
theorem wpX11_takeHeardRows {Γ : Cfg} {l : Launch} {d b : Nat} {g : GG} {K : Ou → HP → Prop}  (hb : 1 ≤ b) (hF : Ct Γ l d 0 yX9_takeUp mX9_takeUp [vR 2] (stt g) (bI (fun v1 g1 => (40 < wr v1 → AW Γ l mX11_takeHeardRows (d + 1) b 28 [vR 1, vI v1, vI 0, vI 0] [] (stt g1) K) ∧ (¬ (40 < wr v1) → (¬ wr (iRem v1 2) = 0 → AW Γ l mX11_takeHeardRows (d + 1) b 28 [vR 1, vI v1, vI 0, vI 0] [] (stt g1) K) ∧ (¬ (¬ wr (iRem v1 2) = 0) → AW Γ l mX11_takeHeardRows (d + 1) b 28 [vR 1, vI v1, vI 1, vI 0] [] (stt g1) K))) K)) : Ct Γ l (d + 1) b yX11_takeHeardRows mX11_takeHeardRows [vR 1] (stt g) K := by
  refine Ct.enter (L := [vR 1, vU, vU, vU]) rfl rfl rfl (by decide +kernel) (by simp [oneSlot]) (Nat.le_of_ble_eq_true rfl) rfl ?_
  refine aw_aload_n (k' := 0) (by decide +kernel) rfl ?_
  refine gfX11_10 rfl (by decide +kernel) (OB.at (ci := 9) (show shp 1 = (19, 0) by decide +kernel) (by decide)) ?_
  refine AW.topR (show RC 1 0 = 2 by decide +kernel) ?_
  refine aw_callV (y := yX9_takeUp) (M2 := mX9_takeUp) (as := []) (S := []) (t := 2) (d2 := d) (b2 := 0) (b3 := b) cwX9_takeUp mlX11_154 imX9_takeUp seX9_takeUp (by decide +kernel) rfl (ci := 7) rfl (OB.at (ci := 7) (show shp 2 = (17, 0) by decide +kernel) (by decide)) (Nat.le_refl _) (Nat.le_of_eq (Nat.zero_add _)) rfl rfl (by simp [oneSlot]) (Nat.le_of_ble_eq_true rfl) (Ct.mono hF ?_)
  rintro o h' (⟨v1, g1, rfl, rfl, hG⟩ | ⟨E, g, rfl, rfl, hG⟩)
  · show AW Γ l mX11_takeHeardRows (d + 1) b 7 [vR 1, vU, vU, vU] [vI v1] (stt g1) K
    refine aw_istore_n (k' := 1) (by decide +kernel) (by decide) ?_
    show AW Γ l mX11_takeHeardRows (d + 1) b 8 [vR 1, vI v1, vU, vU] [] (stt g1) K
    refine aw_iload_n (k' := 1) (by decide +kernel) rfl ?_
    refine aw_bipush (n := 40) (by decide +kernel) (by decide +kernel) ?_
    refine ax_icmp_gt (off := 13) (tgt := 24) (x' := wr v1) (y' := 40) (by decide +kernel) (by decide) rfl (by decide +kernel) (fun hc => ?_) (fun hc => ?_)
    · have hG := hG.1 hc
      refine aw_iconst (n := 0) (by decide +kernel) ?_
      refine aw_istore_n (k' := 2) (by decide +kernel) (by decide) ?_
      show AW Γ l mX11_takeHeardRows (d + 1) b 26 [vR 1, vI v1, vI 0, vU] [] (stt g1) K
      refine aw_iconst (n := 0) (by decide +kernel) ?_
      refine aw_istore_n (k' := 3) (by decide +kernel) (by decide) ?_
      show AW Γ l mX11_takeHeardRows (d + 1) b 28 [vR 1, vI v1, vI 0, vI 0] [] (stt g1) K
      exact hG
    · have hG := hG.2 hc
      refine aw_iload_n (k' := 1) (by decide +kernel) rfl ?_
      refine aw_iconst (n := 2) (by decide +kernel) ?_
      refine aw_irem (by decide +kernel) (by decide +kernel) ?_
      refine ax_if_ne (off := 7) (tgt := 24) (x' := wr (iRem v1 2)) (by decide +kernel) (by decide) rfl (fun hc => ?_) (fun hc => ?_)
      · have hG := hG.1 hc
        refine aw_iconst (n := 0) (by decide +kernel) ?_
        refine aw_istore_n (k' := 2) (by decide +kernel) (by decide) ?_
        show AW Γ l mX11_takeHeardRows (d + 1) b 26 [vR 1, vI v1, vI 0, vU] [] (stt g1) K
        refine aw_iconst (n := 0) (by decide +kernel) ?_
        refine aw_istore_n (k' := 3) (by decide +kernel) (by decide) ?_
        show AW Γ l mX11_takeHeardRows (d + 1) b 28 [vR 1, vI v1, vI 0, vI 0] [] (stt g1) K
        exact hG
      · have hG := hG.2 hc
        refine aw_iconst (n := 1) (by decide +kernel) ?_
        refine aw_goto (off := 4) (tgt := 25) (by decide +kernel) (by decide) ?_
        refine aw_istore_n (k' := 2) (by decide +kernel) (by decide) ?_
        show AW Γ l mX11_takeHeardRows (d + 1) b 26 [vR 1, vI v1, vI 1, vU] [] (stt g1) K
        refine aw_iconst (n := 0) (by decide +kernel) ?_
        refine aw_istore_n (k' := 3) (by decide +kernel) (by decide) ?_
        show AW Γ l mX11_takeHeardRows (d + 1) b 28 [vR 1, vI v1, vI 1, vI 0] [] (stt g1) K
        exact hG
  · exact hG
set_option maxHeartbeats 1000000 in
theorem wpX11_takeHeardRows_28 {Γ : Cfg} {l : Launch} {d b : Nat} {g : GG} {K : Ou → HP → Prop} {y1 : Int} {y2 : Int} {y3 : Int} (hb : 1 ≤ b) (hF : (wr y1 ≤ wr y3 → (¬ wr y2 = 0 → K (.inl (vI y1)) (stt g)) ∧ (¬ (¬ wr y2 = 0) → K (.inr "java/lang/IllegalArgumentException") (stt g))) ∧ (¬ (wr y1 ≤ wr y3) → (wr y2 = 0 → AW Γ l mX11_takeHeardRows (d + 1) b 28 [vR 1, vI y1, vI 0, vI (y3 + 2)] [] (stt g) K) ∧ (¬ (wr y2 = 0) → (12 ≤ wr (cel g 3 y3) → AW Γ l mX11_takeHeardRows (d + 1) b 28 [vR 1, vI y1, vI 0, vI (y3 + 2)] [] (stt g) K) ∧ (¬ (12 ≤ wr (cel g 3 y3)) → (10 < wr (cel g 3 (y3 + 1)) → AW Γ l mX11_takeHeardRows (d + 1) b 28 [vR 1, vI y1, vI 0, vI (y3 + 2)] [] (stt g) K) ∧ (¬ (10 < wr (cel g 3 (y3 + 1))) → AW Γ l mX11_takeHeardRows (d + 1) b 28 [vR 1, vI y1, vI 1, vI (y3 + 2)] [] (stt g) K))))) : AW Γ l mX11_takeHeardRows (d + 1) b 28 [vR 1, vI y1, vI y2, vI y3] [] (stt g) K := by
  refine aw_iload_n (k' := 3) (by decide +kernel) rfl ?_
  refine aw_iload_n (k' := 1) (by decide +kernel) rfl ?_
  refine ax_icmp_ge (off := 53) (tgt := 83) (x' := wr y3) (y' := wr y1) (by decide +kernel) (by decide) rfl rfl (fun hc => ?_) (fun hc => ?_)
  · have hF := hF.1 hc
    refine aw_iload_n (k' := 2) (by decide +kernel) rfl ?_
    refine ax_if_ne (off := 14) (tgt := 98) (x' := wr y2) (by decide +kernel) (by decide) rfl (fun hc => ?_) (fun hc => ?_)
    · have hF := hF.1 hc
      refine aw_iload_n (k' := 1) (by decide +kernel) rfl ?_
      exact aw_iret (by decide +kernel) rfl hF
    · have hF := hF.2 hc
      exact thr130W (ix := 359) (i := 11) rfl (by decide) (by decide +kernel) (by decide +kernel) (by decide +kernel) (by decide +kernel) (by decide +kernel) (by decide +kernel) rfl (by omega) rfl (by simp [oneSlot]) (Nat.le_of_ble_eq_true rfl) hF
  · have hF := hF.2 hc
    refine aw_iload_n (k' := 2) (by decide +kernel) rfl ?_
    refine ax_if_eq (off := 41) (tgt := 75) (x' := wr y2) (by decide +kernel) (by decide) rfl (fun hc => ?_) (fun hc => ?_)
    · have hF := hF.1 hc
      refine aw_iconst (n := 0) (by decide +kernel) ?_
      refine aw_istore_n (k' := 2) (by decide +kernel) (by decide) ?_
      show AW Γ l mX11_takeHeardRows (d + 1) b 77 [vR 1, vI y1, vI 0, vI y3] [] (stt g) K
      refine aw_iinc (i := 3) (n := 2) (by decide +kernel) rfl (by decide) ?_
      show AW Γ l mX11_takeHeardRows (d + 1) b 80 [vR 1, vI y1, vI 0, vI (y3 + 2)] [] (stt g) K
      refine aw_goto (off := -52) (tgt := 28) (by decide +kernel) (by decide) ?_
      exact hF
    · have hF := hF.2 hc
      refine aw_aload_n (k' := 0) (by decide +kernel) rfl ?_
      refine gfX11_10 rfl (by decide +kernel) (OB.at (ci := 9) (show shp 1 = (19, 0) by decide +kernel) (by decide)) ?_
      refine AW.topR (show RC 1 0 = 2 by decide +kernel) ?_
      refine gfX11_151 rfl (by decide +kernel) (OB.at (ci := 7) (show shp 2 = (17, 0) by decide +kernel) (by decide)) ?_
      refine AW.topR (show RC 2 0 = 3 by decide +kernel) ?_
      refine aw_iload_n (k' := 3) (by decide +kernel) rfl ?_
      refine aw_callS (y := yX11_cell) (M2 := mX11_cell) (as := [vR 3, vI y3]) (S := []) (d2 := d) (b2 := 0) (b3 := b) cwX11_cell mlX11_168 stX11_cell (by decide +kernel) rfl (Nat.le_refl _) (Nat.le_of_eq (Nat.zero_add _)) rfl rfl (by simp [oneSlot]) (Nat.le_of_ble_eq_true rfl) (c_cell (show (shp 3).1 = 0 by decide +kernel) ?_)
      show AW Γ l mX11_takeHeardRows (d + 1) b 48 [vR 1, vI y1, vI y2, vI y3] [vI (cel g 3 y3)] (stt g) K
      refine aw_bipush (n := 12) (by decide +kernel) (by decide +kernel) ?_
      refine ax_icmp_ge (off := 25) (tgt := 75) (x' := wr (cel g 3 y3)) (y' := 12) (by decide +kernel) (by decide) rfl (by decide +kernel) (fun hc => ?_) (fun hc => ?_)
      · have hF := hF.1 hc
        refine aw_iconst (n := 0) (by decide +kernel) ?_
        refine aw_istore_n (k' := 2) (by decide +kernel) (by decide) ?_
        show AW Γ l mX11_takeHeardRows (d + 1) b 77 [vR 1, vI y1, vI 0, vI y3] [] (stt g) K
        refine aw_iinc (i := 3) (n := 2) (by decide +kernel) rfl (by decide) ?_
        show AW Γ l mX11_takeHeardRows (d + 1) b 80 [vR 1, vI y1, vI 0, vI (y3 + 2)] [] (stt g) K
        refine aw_goto (off := -52) (tgt := 28) (by decide +kernel) (by decide) ?_
        exact hF
      · have hF := hF.2 hc
        refine aw_aload_n (k' := 0) (by decide +kernel) rfl ?_
        refine gfX11_10 rfl (by decide +kernel) (OB.at (ci := 9) (show shp 1 = (19, 0) by decide +kernel) (by decide)) ?_
        refine AW.topR (show RC 1 0 = 2 by decide +kernel) ?_
        refine gfX11_151 rfl (by decide +kernel) (OB.at (ci := 7) (show shp 2 = (17, 0) by decide +kernel) (by decide)) ?_
        refine AW.topR (show RC 2 0 = 3 by decide +kernel) ?_
        refine aw_iload_n (k' := 3) (by decide +kernel) rfl ?_
        refine aw_iconst (n := 1) (by decide +kernel) ?_
        refine aw_iadd (by decide +kernel) ?_
        refine aw_callS (y := yX11_cell) (M2 := mX11_cell) (as := [vR 3, vI (y3 + 1)]) (S := []) (d2 := d) (b2 := 0) (b3 := b) cwX11_cell mlX11_168 stX11_cell (by decide +kernel) rfl (Nat.le_refl _) (Nat.le_of_eq (Nat.zero_add _)) rfl rfl (by simp [oneSlot]) (Nat.le_of_ble_eq_true rfl) (c_cell (show (shp 3).1 = 0 by decide +kernel) ?_)
        show AW Γ l mX11_takeHeardRows (d + 1) b 66 [vR 1, vI y1, vI y2, vI y3] [vI (cel g 3 (y3 + 1))] (stt g) K
        refine aw_bipush (n := 10) (by decide +kernel) (by decide +kernel) ?_
        refine ax_icmp_gt (off := 7) (tgt := 75) (x' := wr (cel g 3 (y3 + 1))) (y' := 10) (by decide +kernel) (by decide) rfl (by decide +kernel) (fun hc => ?_) (fun hc => ?_)
        · have hF := hF.1 hc
          refine aw_iconst (n := 0) (by decide +kernel) ?_
          refine aw_istore_n (k' := 2) (by decide +kernel) (by decide) ?_
          show AW Γ l mX11_takeHeardRows (d + 1) b 77 [vR 1, vI y1, vI 0, vI y3] [] (stt g) K
          refine aw_iinc (i := 3) (n := 2) (by decide +kernel) rfl (by decide) ?_
          show AW Γ l mX11_takeHeardRows (d + 1) b 80 [vR 1, vI y1, vI 0, vI (y3 + 2)] [] (stt g) K
          refine aw_goto (off := -52) (tgt := 28) (by decide +kernel) (by decide) ?_
          exact hF
        · have hF := hF.2 hc
          refine aw_iconst (n := 1) (by decide +kernel) ?_
          refine aw_goto (off := 4) (tgt := 76) (by decide +kernel) (by decide) ?_
          refine aw_istore_n (k' := 2) (by decide +kernel) (by decide) ?_
          show AW Γ l mX11_takeHeardRows (d + 1) b 77 [vR 1, vI y1, vI 1, vI y3] [] (stt g) K
          refine aw_iinc (i := 3) (n := 2) (by decide +kernel) rfl (by decide) ?_
          show AW Γ l mX11_takeHeardRows (d + 1) b 80 [vR 1, vI y1, vI 1, vI (y3 + 2)] [] (stt g) K
          refine aw_goto (off := -52) (tgt := 28) (by decide +kernel) (by decide) ?_
          exact hF

set_option maxHeartbeats 1000000 in
theorem wpX11_wrongRows {Γ : Cfg} {l : Launch} {d b : Nat} {g : GG} {K : Ou → HP → Prop} {x1 : Int} {x2 : Int} (hF : AW Γ l mX11_wrongRows (d + 1) b 5 [vR 1, vI x1, vI x2, vI 0, vI 0] [] (stt g) K) : Ct Γ l (d + 1) b yX11_wrongRows mX11_wrongRows [vR 1, vI x1, vI x2] (stt g) K := by
  refine Ct.enter (L := [vR 1, vI x1, vI x2, vU, vU]) rfl rfl rfl (by decide +kernel) (by simp [oneSlot]) (Nat.le_of_ble_eq_true rfl) rfl ?_
  refine aw_iconst (n := 0) (by decide +kernel) ?_
  refine aw_istore_n (k' := 3) (by decide +kernel) (by decide) ?_
  show AW Γ l mX11_wrongRows (d + 1) b 2 [vR 1, vI x1, vI x2, vI 0, vU] [] (stt g) K
  refine aw_iconst (n := 0) (by decide +kernel) ?_
  refine aw_istore (i := 4) (by decide +kernel) (by decide) ?_
  show AW Γ l mX11_wrongRows (d + 1) b 5 [vR 1, vI x1, vI x2, vI 0, vI 0] [] (stt g) K
  exact hF
set_option maxHeartbeats 1000000 in
theorem wpX11_wrongRows_5 {Γ : Cfg} {l : Launch} {d b : Nat} {g : GG} {K : Ou → HP → Prop} {x1 : Int} {x2 : Int} {y3 : Int} {y4 : Int} (hF : (wr x2 ≤ wr y4 → K (.inl (vI y3)) (stt g)) ∧ (¬ (wr x2 ≤ wr y4) → Ct Γ l d 0 yX2_kindAt mX2_kindAt [vR 8, vI x1, vI (cel g 3 y4)] (stt g) (bI (fun v1 g1 => (wr v1 = wr (cel g1 3 (y4 + 1)) → AW Γ l mX11_wrongRows (d + 1) b 5 [vR 1, vI x1, vI x2, vI y3, vI (y4 + 2)] [] (stt g1) K) ∧ (¬ (wr v1 = wr (cel g1 3 (y4 + 1))) → AW Γ l mX11_wrongRows (d + 1) b 5 [vR 1, vI x1, vI x2, vI (y3 + 1), vI (y4 + 2)] [] (stt g1) K)) K))) : AW Γ l mX11_wrongRows (d + 1) b 5 [vR 1, vI x1, vI x2, vI y3, vI y4] [] (stt g) K := by
  refine aw_iload (i := 4) (by decide +kernel) rfl ?_
  refine aw_iload_n (k' := 2) (by decide +kernel) rfl ?_
  refine ax_icmp_ge (off := 49) (tgt := 57) (x' := wr y4) (y' := wr x2) (by decide +kernel) (by decide) rfl rfl (fun hc => ?_) (fun hc => ?_)
  · have hF := hF.1 hc
    refine aw_iload_n (k' := 3) (by decide +kernel) rfl ?_
    exact aw_iret (by decide +kernel) rfl hF
  · have hF := hF.2 hc
    refine aw_aload_n (k' := 0) (by decide +kernel) rfl ?_
    refine gfX11_26 rfl (by decide +kernel) (OB.at (ci := 9) (show shp 1 = (19, 0) by decide +kernel) (by decide)) ?_
    refine AW.topR (show RC 1 2 = 8 by decide +kernel) ?_
    refine aw_iload_n (k' := 1) (by decide +kernel) rfl ?_
    refine aw_aload_n (k' := 0) (by decide +kernel) rfl ?_
    refine gfX11_10 rfl (by decide +kernel) (OB.at (ci := 9) (show shp 1 = (19, 0) by decide +kernel) (by decide)) ?_
    refine AW.topR (show RC 1 0 = 2 by decide +kernel) ?_
    refine gfX11_151 rfl (by decide +kernel) (OB.at (ci := 7) (show shp 2 = (17, 0) by decide +kernel) (by decide)) ?_
    refine AW.topR (show RC 2 0 = 3 by decide +kernel) ?_
    refine aw_iload (i := 4) (by decide +kernel) rfl ?_
    refine aw_callS (y := yX11_cell) (M2 := mX11_cell) (as := [vR 3, vI y4]) (S := [vI x1, vR 8]) (d2 := d) (b2 := 0) (b3 := b) cwX11_cell mlX11_168 stX11_cell (by decide +kernel) rfl (Nat.le_refl _) (Nat.le_of_eq (Nat.zero_add _)) rfl rfl (by simp [oneSlot]) (Nat.le_of_ble_eq_true rfl) (c_cell (show (shp 3).1 = 0 by decide +kernel) ?_)
    show AW Γ l mX11_wrongRows (d + 1) b 28 [vR 1, vI x1, vI x2, vI y3, vI y4] [vI (cel g 3 y4), vI x1, vR 8] (stt g) K
    refine aw_callV (y := yX2_kindAt) (M2 := mX2_kindAt) (as := [vI x1, vI (cel g 3 y4)]) (S := []) (t := 8) (d2 := d) (b2 := 0) (b3 := b) cwX2_kindAt mlX11_361 imX2_kindAt seX2_kindAt (by decide +kernel) rfl (ci := 2) rfl (OB.at (ci := 2) (show shp 8 = (12, 0) by decide +kernel) (by decide)) (Nat.le_refl _) (Nat.le_of_eq (Nat.zero_add _)) rfl rfl (by simp [oneSlot]) (Nat.le_of_ble_eq_true rfl) (Ct.mono hF ?_)
    rintro o h' (⟨v1, g1, rfl, rfl, hG⟩ | ⟨E, g, rfl, rfl, hG⟩)
    · show AW Γ l mX11_wrongRows (d + 1) b 31 [vR 1, vI x1, vI x2, vI y3, vI y4] [vI v1] (stt g1) K
      refine aw_aload_n (k' := 0) (by decide +kernel) rfl ?_
      refine gfX11_10 rfl (by decide +kernel) (OB.at (ci := 9) (show shp 1 = (19, 0) by decide +kernel) (by decide)) ?_
      refine AW.topR (show RC 1 0 = 2 by decide +kernel) ?_
      refine gfX11_151 rfl (by decide +kernel) (OB.at (ci := 7) (show shp 2 = (17, 0) by decide +kernel) (by decide)) ?_
      refine AW.topR (show RC 2 0 = 3 by decide +kernel) ?_
      refine aw_iload (i := 4) (by decide +kernel) rfl ?_
      refine aw_iconst (n := 1) (by decide +kernel) ?_
      refine aw_iadd (by decide +kernel) ?_
      refine aw_callS (y := yX11_cell) (M2 := mX11_cell) (as := [vR 3, vI (y4 + 1)]) (S := [vI v1]) (d2 := d) (b2 := 0) (b3 := b) cwX11_cell mlX11_168 stX11_cell (by decide +kernel) rfl (Nat.le_refl _) (Nat.le_of_eq (Nat.zero_add _)) rfl rfl (by simp [oneSlot]) (Nat.le_of_ble_eq_true rfl) (c_cell (show (shp 3).1 = 0 by decide +kernel) ?_)
      show AW Γ l mX11_wrongRows (d + 1) b 45 [vR 1, vI x1, vI x2, vI y3, vI y4] [vI (cel g1 3 (y4 + 1)), vI v1] (stt g1) K
      refine ax_icmp_eq (off := 6) (tgt := 51) (x' := wr v1) (y' := wr (cel g1 3 (y4 + 1))) (by decide +kernel) (by decide) rfl rfl (fun hc => ?_) (fun hc => ?_)
      · have hG := hG.1 hc
        refine aw_iinc (i := 4) (n := 2) (by decide +kernel) rfl (by decide) ?_
        show AW Γ l mX11_wrongRows (d + 1) b 54 [vR 1, vI x1, vI x2, vI y3, vI (y4 + 2)] [] (stt g1) K
        refine aw_goto (off := -49) (tgt := 5) (by decide +kernel) (by decide) ?_
        exact hG
      · have hG := hG.2 hc
        refine aw_iinc (i := 3) (n := 1) (by decide +kernel) rfl (by decide) ?_
        show AW Γ l mX11_wrongRows (d + 1) b 51 [vR 1, vI x1, vI x2, vI (y3 + 1), vI y4] [] (stt g1) K
        refine aw_iinc (i := 4) (n := 2) (by decide +kernel) rfl (by decide) ?_
        show AW Γ l mX11_wrongRows (d + 1) b 54 [vR 1, vI x1, vI x2, vI (y3 + 1), vI (y4 + 2)] [] (stt g1) K
        refine aw_goto (off := -49) (tgt := 5) (by decide +kernel) (by decide) ?_
        exact hG
    · exact hG

set_option maxHeartbeats 1000000 in
theorem wpX11_fittingBits {Γ : Cfg} {l : Launch} {d b : Nat} {g : GG} {K : Ou → HP → Prop} {x1 : Int} (hF : AW Γ l mX11_fittingBits (d + 1) b 4 [vR 1, vI x1, vI 0, vI 0] [] (stt g) K) : Ct Γ l (d + 1) b yX11_fittingBits mX11_fittingBits [vR 1, vI x1] (stt g) K := by
  refine Ct.enter (L := [vR 1, vI x1, vU, vU]) rfl rfl rfl (by decide +kernel) (by simp [oneSlot]) (Nat.le_of_ble_eq_true rfl) rfl ?_
  refine aw_iconst (n := 0) (by decide +kernel) ?_
  refine aw_istore_n (k' := 2) (by decide +kernel) (by decide) ?_
  show AW Γ l mX11_fittingBits (d + 1) b 2 [vR 1, vI x1, vI 0, vU] [] (stt g) K
  refine aw_iconst (n := 0) (by decide +kernel) ?_
  refine aw_istore_n (k' := 3) (by decide +kernel) (by decide) ?_
  show AW Γ l mX11_fittingBits (d + 1) b 4 [vR 1, vI x1, vI 0, vI 0] [] (stt g) K
  exact hF
set_option maxHeartbeats 1000000 in
theorem wpX11_fittingBits_4 {Γ : Cfg} {l : Launch} {d b : Nat} {g : GG} {K : Ou → HP → Prop} {x1 : Int} {y2 : Int} {y3 : Int} (hF : (wr (g 8 8) ≤ wr y3 → K (.inl (vI y2)) (stt g)) ∧ (¬ (wr (g 8 8) ≤ wr y3) → Ct Γ l d 0 yX11_wrongRows mX11_wrongRows [vR 1, vI y3, vI x1] (stt g) (bI (fun v1 g1 => (1 < wr v1 → AW Γ l mX11_fittingBits (d + 1) b 4 [vR 1, vI x1, vI y2, vI (y3 + 1)] [] (stt g1) K) ∧ (¬ (1 < wr v1) → AW Γ l mX11_fittingBits (d + 1) b 4 [vR 1, vI x1, vI (iOr y2 (iShl 1 y3)), vI (y3 + 1)] [] (stt g1) K)) K))) : AW Γ l mX11_fittingBits (d + 1) b 4 [vR 1, vI x1, vI y2, vI y3] [] (stt g) K := by
  refine aw_iload_n (k' := 3) (by decide +kernel) rfl ?_
  refine aw_aload_n (k' := 0) (by decide +kernel) rfl ?_
  refine gfX11_26 rfl (by decide +kernel) (OB.at (ci := 9) (show shp 1 = (19, 0) by decide +kernel) (by decide)) ?_
  refine AW.topR (show RC 1 2 = 8 by decide +kernel) ?_
  refine gfX11_253 rfl (by decide +kernel) (OB.at (ci := 2) (show shp 8 = (12, 0) by decide +kernel) (by decide)) ?_
  refine ax_icmp_ge (off := 25) (tgt := 37) (x' := wr y3) (y' := wr (g 8 8)) (by decide +kernel) (by decide) rfl rfl (fun hc => ?_) (fun hc => ?_)
  · have hF := hF.1 hc
    refine aw_iload_n (k' := 2) (by decide +kernel) rfl ?_
    exact aw_iret (by decide +kernel) rfl hF
  · have hF := hF.2 hc
    refine aw_aload_n (k' := 0) (by decide +kernel) rfl ?_
    refine aw_iload_n (k' := 3) (by decide +kernel) rfl ?_
    refine aw_iload_n (k' := 1) (by decide +kernel) rfl ?_
    refine aw_callV (y := yX11_wrongRows) (M2 := mX11_wrongRows) (as := [vI y3, vI x1]) (S := []) (t := 1) (d2 := d) (b2 := 0) (b3 := b) cwX11_wrongRows mlX11_347 imX11_wrongRows seX11_wrongRows (by decide +kernel) rfl (ci := 9) rfl (OB.at (ci := 9) (show shp 1 = (19, 0) by decide +kernel) (by decide)) (Nat.le_refl _) (Nat.le_of_eq (Nat.zero_add _)) rfl rfl (by simp [oneSlot]) (Nat.le_of_ble_eq_true rfl) (Ct.mono hF ?_)
    rintro o h' (⟨v1, g1, rfl, rfl, hG⟩ | ⟨E, g, rfl, rfl, hG⟩)
    · show AW Γ l mX11_fittingBits (d + 1) b 21 [vR 1, vI x1, vI y2, vI y3] [vI v1] (stt g1) K
      refine aw_iconst (n := 1) (by decide +kernel) ?_
      refine ax_icmp_gt (off := 9) (tgt := 31) (x' := wr v1) (y' := 1) (by decide +kernel) (by decide) rfl (by decide +kernel) (fun hc => ?_) (fun hc => ?_)
      · have hG := hG.1 hc
        refine aw_iinc (i := 3) (n := 1) (by decide +kernel) rfl (by decide) ?_
        show AW Γ l mX11_fittingBits (d + 1) b 34 [vR 1, vI x1, vI y2, vI (y3 + 1)] [] (stt g1) K
        refine aw_goto (off := -30) (tgt := 4) (by decide +kernel) (by decide) ?_
        exact hG
      · have hG := hG.2 hc
        refine aw_iload_n (k' := 2) (by decide +kernel) rfl ?_
        refine aw_iconst (n := 1) (by decide +kernel) ?_
        refine aw_iload_n (k' := 3) (by decide +kernel) rfl ?_
        refine aw_ishl (by decide +kernel) ?_
        refine aw_ior (by decide +kernel) ?_
        refine aw_istore_n (k' := 2) (by decide +kernel) (by decide) ?_
        show AW Γ l mX11_fittingBits (d + 1) b 31 [vR 1, vI x1, vI (iOr y2 (iShl 1 y3)), vI y3] [] (stt g1) K
        refine aw_iinc (i := 3) (n := 1) (by decide +kernel) rfl (by decide) ?_
        show AW Γ l mX11_fittingBits (d + 1) b 34 [vR 1, vI x1, vI (iOr y2 (iShl 1 y3)), vI (y3 + 1)] [] (stt g1) K
        refine aw_goto (off := -30) (tgt := 4) (by decide +kernel) (by decide) ?_
        exact hG
    · exact hG

set_option maxHeartbeats 1000000 in
theorem wpX11_greatestPart {Γ : Cfg} {l : Launch} {d b : Nat} {g : GG} {K : Ou → HP → Prop} {x1 : Int} {x2 : Int} (hF : AW Γ l mX11_greatestPart (d + 1) b 5 [vR 1, vI x1, vI x2, vI 0, vI 0, vU, vU] [] (stt g) K) : Ct Γ l (d + 1) b yX11_greatestPart mX11_greatestPart [vR 1, vI x1, vI x2] (stt g) K := by
  refine Ct.enter (L := [vR 1, vI x1, vI x2, vU, vU, vU, vU]) rfl rfl rfl (by decide +kernel) (by simp [oneSlot]) (Nat.le_of_ble_eq_true rfl) rfl ?_
  refine aw_iconst (n := 0) (by decide +kernel) ?_
  refine aw_istore_n (k' := 3) (by decide +kernel) (by decide) ?_
  show AW Γ l mX11_greatestPart (d + 1) b 2 [vR 1, vI x1, vI x2, vI 0, vU, vU, vU] [] (stt g) K
  refine aw_iconst (n := 0) (by decide +kernel) ?_
  refine aw_istore (i := 4) (by decide +kernel) (by decide) ?_
  show AW Γ l mX11_greatestPart (d + 1) b 5 [vR 1, vI x1, vI x2, vI 0, vI 0, vU, vU] [] (stt g) K
  exact hF
set_option maxHeartbeats 1000000 in
theorem wpX11_greatestPart_5 {Γ : Cfg} {l : Launch} {d b : Nat} {g : GG} {K : Ou → HP → Prop} {x1 : Int} {x2 : Int} {y3 : Int} {y4 : Int} (hF : (10 < wr y4 → K (.inl (vI y3)) (stt g)) ∧ (¬ (10 < wr y4) → AW Γ l mX11_greatestPart (d + 1) b 18 [vR 1, vI x1, vI x2, vI y3, vI y4, vI 0, vI 0] [] (stt g) K)) : AW Γ l mX11_greatestPart (d + 1) b 5 [vR 1, vI x1, vI x2, vI y3, vI y4, vU, vU] [] (stt g) K := by
  refine aw_iload (i := 4) (by decide +kernel) rfl ?_
  refine aw_bipush (n := 10) (by decide +kernel) (by decide +kernel) ?_
  refine ax_icmp_gt (off := 67) (tgt := 76) (x' := wr y4) (y' := 10) (by decide +kernel) (by decide) rfl (by decide +kernel) (fun hc => ?_) (fun hc => ?_)
  · have hF := hF.1 hc
    refine aw_iload_n (k' := 3) (by decide +kernel) rfl ?_
    exact aw_iret (by decide +kernel) rfl hF
  · have hF := hF.2 hc
    refine aw_iconst (n := 0) (by decide +kernel) ?_
    refine aw_istore (i := 5) (by decide +kernel) (by decide) ?_
    show AW Γ l mX11_greatestPart (d + 1) b 15 [vR 1, vI x1, vI x2, vI y3, vI y4, vI 0, vU] [] (stt g) K
    refine aw_iconst (n := 0) (by decide +kernel) ?_
    refine aw_istore (i := 6) (by decide +kernel) (by decide) ?_
    show AW Γ l mX11_greatestPart (d + 1) b 18 [vR 1, vI x1, vI x2, vI y3, vI y4, vI 0, vI 0] [] (stt g) K
    exact hF
set_option maxHeartbeats 1000000 in
theorem wpX11_greatestPart_18 {Γ : Cfg} {l : Launch} {d b : Nat} {g : GG} {K : Ou → HP → Prop} {x1 : Int} {x2 : Int} {y3 : Int} {y4 : Int} {y5 : Int} {y6 : Int} (hF : (wr (g 8 8) ≤ wr y6 → AW Γ l mX11_greatestPart (d + 1) b 5 [vR 1, vI x1, vI x2, vI (iMax y3 y5), vI (y4 + 1), vI y5, vI y6] [] (stt g) K) ∧ (¬ (wr (g 8 8) ≤ wr y6) → (wr (iAnd (iShr x1 y6) 1) = 0 → AW Γ l mX11_greatestPart (d + 1) b 18 [vR 1, vI x1, vI x2, vI y3, vI y4, vI y5, vI (y6 + 1)] [] (stt g) K) ∧ (¬ (wr (iAnd (iShr x1 y6) 1) = 0) → Ct Γ l d 0 yX2_kindAt mX2_kindAt [vR 8, vI y6, vI x2] (stt g) (bI (fun v1 g1 => (¬ wr v1 = wr y4 → AW Γ l mX11_greatestPart (d + 1) b 18 [vR 1, vI x1, vI x2, vI y3, vI y4, vI y5, vI (y6 + 1)] [] (stt g1) K) ∧ (¬ (¬ wr v1 = wr y4) → AW Γ l mX11_greatestPart (d + 1) b 18 [vR 1, vI x1, vI x2, vI y3, vI y4, vI (y5 + 1), vI (y6 + 1)] [] (stt g1) K)) K)))) : AW Γ l mX11_greatestPart (d + 1) b 18 [vR 1, vI x1, vI x2, vI y3, vI y4, vI y5, vI y6] [] (stt g) K := by
  refine aw_iload (i := 6) (by decide +kernel) rfl ?_
  refine aw_aload_n (k' := 0) (by decide +kernel) rfl ?_
  refine gfX11_26 rfl (by decide +kernel) (OB.at (ci := 9) (show shp 1 = (19, 0) by decide +kernel) (by decide)) ?_
  refine AW.topR (show RC 1 2 = 8 by decide +kernel) ?_
  refine gfX11_253 rfl (by decide +kernel) (OB.at (ci := 2) (show shp 8 = (12, 0) by decide +kernel) (by decide)) ?_
  refine ax_icmp_ge (off := 36) (tgt := 63) (x' := wr y6) (y' := wr (g 8 8)) (by decide +kernel) (by decide) rfl rfl (fun hc => ?_) (fun hc => ?_)
  · have hF := hF.1 hc
    refine aw_iload_n (k' := 3) (by decide +kernel) rfl ?_
    refine aw_iload (i := 5) (by decide +kernel) rfl ?_
    refine aw_mmax (by decide +kernel) mlX11_364 stJ9_max_7cf53 cwM_init cwM_max (by simp [oneSlot]) (Nat.le_of_ble_eq_true rfl) ?_
    refine aw_istore_n (k' := 3) (by decide +kernel) (by decide) ?_
    show AW Γ l mX11_greatestPart (d + 1) b 70 [vR 1, vI x1, vI x2, vI (iMax y3 y5), vI y4, vI y5, vI y6] [] (stt g) K
    refine aw_iinc (i := 4) (n := 1) (by decide +kernel) rfl (by decide) ?_
    show AW Γ l mX11_greatestPart (d + 1) b 73 [vR 1, vI x1, vI x2, vI (iMax y3 y5), vI (y4 + 1), vI y5, vI y6] [] (stt g) K
    refine aw_goto (off := -68) (tgt := 5) (by decide +kernel) (by decide) ?_
    exact hF
  · have hF := hF.2 hc
    refine aw_iload_n (k' := 1) (by decide +kernel) rfl ?_
    refine aw_iload (i := 6) (by decide +kernel) rfl ?_
    refine aw_ishr (by decide +kernel) ?_
    refine aw_iconst (n := 1) (by decide +kernel) ?_
    refine aw_iand (by decide +kernel) ?_
    refine ax_if_eq (off := 21) (tgt := 57) (x' := wr (iAnd (iShr x1 y6) 1)) (by decide +kernel) (by decide) rfl (fun hc => ?_) (fun hc => ?_)
    · have hF := hF.1 hc
      refine aw_iinc (i := 6) (n := 1) (by decide +kernel) rfl (by decide) ?_
      show AW Γ l mX11_greatestPart (d + 1) b 60 [vR 1, vI x1, vI x2, vI y3, vI y4, vI y5, vI (y6 + 1)] [] (stt g) K
      refine aw_goto (off := -42) (tgt := 18) (by decide +kernel) (by decide) ?_
      exact hF
    · have hF := hF.2 hc
      refine aw_aload_n (k' := 0) (by decide +kernel) rfl ?_
      refine gfX11_26 rfl (by decide +kernel) (OB.at (ci := 9) (show shp 1 = (19, 0) by decide +kernel) (by decide)) ?_
      refine AW.topR (show RC 1 2 = 8 by decide +kernel) ?_
      refine aw_iload (i := 6) (by decide +kernel) rfl ?_
      refine aw_iload_n (k' := 2) (by decide +kernel) rfl ?_
      refine aw_callV (y := yX2_kindAt) (M2 := mX2_kindAt) (as := [vI y6, vI x2]) (S := []) (t := 8) (d2 := d) (b2 := 0) (b3 := b) cwX2_kindAt mlX11_361 imX2_kindAt seX2_kindAt (by decide +kernel) rfl (ci := 2) rfl (OB.at (ci := 2) (show shp 8 = (12, 0) by decide +kernel) (by decide)) (Nat.le_refl _) (Nat.le_of_eq (Nat.zero_add _)) rfl rfl (by simp [oneSlot]) (Nat.le_of_ble_eq_true rfl) (Ct.mono hF ?_)
      rintro o h' (⟨v1, g1, rfl, rfl, hG⟩ | ⟨E, g, rfl, rfl, hG⟩)
      · show AW Γ l mX11_greatestPart (d + 1) b 49 [vR 1, vI x1, vI x2, vI y3, vI y4, vI y5, vI y6] [vI v1] (stt g1) K
        refine aw_iload (i := 4) (by decide +kernel) rfl ?_
        refine ax_icmp_ne (off := 6) (tgt := 57) (x' := wr v1) (y' := wr y4) (by decide +kernel) (by decide) rfl rfl (fun hc => ?_) (fun hc => ?_)
        · have hG := hG.1 hc
          refine aw_iinc (i := 6) (n := 1) (by decide +kernel) rfl (by decide) ?_
          show AW Γ l mX11_greatestPart (d + 1) b 60 [vR 1, vI x1, vI x2, vI y3, vI y4, vI y5, vI (y6 + 1)] [] (stt g1) K
          refine aw_goto (off := -42) (tgt := 18) (by decide +kernel) (by decide) ?_
          exact hG
        · have hG := hG.2 hc
          refine aw_iinc (i := 5) (n := 1) (by decide +kernel) rfl (by decide) ?_
          show AW Γ l mX11_greatestPart (d + 1) b 57 [vR 1, vI x1, vI x2, vI y3, vI y4, vI (y5 + 1), vI y6] [] (stt g1) K
          refine aw_iinc (i := 6) (n := 1) (by decide +kernel) rfl (by decide) ?_
          show AW Γ l mX11_greatestPart (d + 1) b 60 [vR 1, vI x1, vI x2, vI y3, vI y4, vI (y5 + 1), vI (y6 + 1)] [] (stt g1) K
          refine aw_goto (off := -42) (tgt := 18) (by decide +kernel) (by decide) ?_
          exact hG
      · exact hG

set_option maxHeartbeats 1000000 in
theorem wpX11_takeCoughs {Γ : Cfg} {l : Launch} {d b : Nat} {g : GG} {K : Ou → HP → Prop} {x1 : Int} (hb : 1 ≤ b) (hF : Ct Γ l d 0 yX9_takeUp mX9_takeUp [vR 2] (stt g) (bI (fun v1 g1 => (6 < wr v1 → AW Γ l mX11_takeCoughs (d + 1) b 36 [vR 1, vI x1, vI v1, vI 0, vI 0, vI 0, vU] [] (stt g1) K) ∧ (¬ (6 < wr v1) → (wr x1 < 0 → AW Γ l mX11_takeCoughs (d + 1) b 36 [vR 1, vI x1, vI v1, vI 0, vI 0, vI 0, vU] [] (stt g1) K) ∧ (¬ (wr x1 < 0) → (99 < wr x1 → AW Γ l mX11_takeCoughs (d + 1) b 36 [vR 1, vI x1, vI v1, vI 0, vI 0, vI 0, vU] [] (stt g1) K) ∧ (¬ (99 < wr x1) → AW Γ l mX11_takeCoughs (d + 1) b 36 [vR 1, vI x1, vI v1, vI 1, vI 0, vI 0, vU] [] (stt g1) K)))) K)) : Ct Γ l (d + 1) b yX11_takeCoughs mX11_takeCoughs [vR 1, vI x1] (stt g) K := by
  refine Ct.enter (L := [vR 1, vI x1, vU, vU, vU, vU, vU]) rfl rfl rfl (by decide +kernel) (by simp [oneSlot]) (Nat.le_of_ble_eq_true rfl) rfl ?_
  refine aw_aload_n (k' := 0) (by decide +kernel) rfl ?_
  refine gfX11_10 rfl (by decide +kernel) (OB.at (ci := 9) (show shp 1 = (19, 0) by decide +kernel) (by decide)) ?_
  refine AW.topR (show RC 1 0 = 2 by decide +kernel) ?_
  refine aw_callV (y := yX9_takeUp) (M2 := mX9_takeUp) (as := []) (S := []) (t := 2) (d2 := d) (b2 := 0) (b3 := b) cwX9_takeUp mlX11_154 imX9_takeUp seX9_takeUp (by decide +kernel) rfl (ci := 7) rfl (OB.at (ci := 7) (show shp 2 = (17, 0) by decide +kernel) (by decide)) (Nat.le_refl _) (Nat.le_of_eq (Nat.zero_add _)) rfl rfl (by simp [oneSlot]) (Nat.le_of_ble_eq_true rfl) (Ct.mono hF ?_)
  rintro o h' (⟨v1, g1, rfl, rfl, hG⟩ | ⟨E, g, rfl, rfl, hG⟩)
  · show AW Γ l mX11_takeCoughs (d + 1) b 7 [vR 1, vI x1, vU, vU, vU, vU, vU] [vI v1] (stt g1) K
    refine aw_istore_n (k' := 2) (by decide +kernel) (by decide) ?_
    show AW Γ l mX11_takeCoughs (d + 1) b 8 [vR 1, vI x1, vI v1, vU, vU, vU, vU] [] (stt g1) K
    refine aw_iload_n (k' := 2) (by decide +kernel) rfl ?_
    refine aw_bipush (n := 6) (by decide +kernel) (by decide +kernel) ?_
    refine ax_icmp_gt (off := 17) (tgt := 28) (x' := wr v1) (y' := 6) (by decide +kernel) (by decide) rfl (by decide +kernel) (fun hc => ?_) (fun hc => ?_)
    · have hG := hG.1 hc
      refine aw_iconst (n := 0) (by decide +kernel) ?_
      refine aw_istore_n (k' := 3) (by decide +kernel) (by decide) ?_
      show AW Γ l mX11_takeCoughs (d + 1) b 30 [vR 1, vI x1, vI v1, vI 0, vU, vU, vU] [] (stt g1) K
      refine aw_iconst (n := 0) (by decide +kernel) ?_
      refine aw_istore (i := 4) (by decide +kernel) (by decide) ?_
      show AW Γ l mX11_takeCoughs (d + 1) b 33 [vR 1, vI x1, vI v1, vI 0, vI 0, vU, vU] [] (stt g1) K
      refine aw_iconst (n := 0) (by decide +kernel) ?_
      refine aw_istore (i := 5) (by decide +kernel) (by decide) ?_
      show AW Γ l mX11_takeCoughs (d + 1) b 36 [vR 1, vI x1, vI v1, vI 0, vI 0, vI 0, vU] [] (stt g1) K
      exact hG
    · have hG := hG.2 hc
      refine aw_iload_n (k' := 1) (by decide +kernel) rfl ?_
      refine ax_if_lt (off := 13) (tgt := 28) (x' := wr x1) (by decide +kernel) (by decide) rfl (fun hc => ?_) (fun hc => ?_)
      · have hG := hG.1 hc
        refine aw_iconst (n := 0) (by decide +kernel) ?_
        refine aw_istore_n (k' := 3) (by decide +kernel) (by decide) ?_
        show AW Γ l mX11_takeCoughs (d + 1) b 30 [vR 1, vI x1, vI v1, vI 0, vU, vU, vU] [] (stt g1) K
        refine aw_iconst (n := 0) (by decide +kernel) ?_
        refine aw_istore (i := 4) (by decide +kernel) (by decide) ?_
        show AW Γ l mX11_takeCoughs (d + 1) b 33 [vR 1, vI x1, vI v1, vI 0, vI 0, vU, vU] [] (stt g1) K
        refine aw_iconst (n := 0) (by decide +kernel) ?_
        refine aw_istore (i := 5) (by decide +kernel) (by decide) ?_
        show AW Γ l mX11_takeCoughs (d + 1) b 36 [vR 1, vI x1, vI v1, vI 0, vI 0, vI 0, vU] [] (stt g1) K
        exact hG
      · have hG := hG.2 hc
        refine aw_iload_n (k' := 1) (by decide +kernel) rfl ?_
        refine aw_bipush (n := 99) (by decide +kernel) (by decide +kernel) ?_
        refine ax_icmp_gt (off := 7) (tgt := 28) (x' := wr x1) (y' := 99) (by decide +kernel) (by decide) rfl (by decide +kernel) (fun hc => ?_) (fun hc => ?_)
        · have hG := hG.1 hc
          refine aw_iconst (n := 0) (by decide +kernel) ?_
          refine aw_istore_n (k' := 3) (by decide +kernel) (by decide) ?_
          show AW Γ l mX11_takeCoughs (d + 1) b 30 [vR 1, vI x1, vI v1, vI 0, vU, vU, vU] [] (stt g1) K
          refine aw_iconst (n := 0) (by decide +kernel) ?_
          refine aw_istore (i := 4) (by decide +kernel) (by decide) ?_
          show AW Γ l mX11_takeCoughs (d + 1) b 33 [vR 1, vI x1, vI v1, vI 0, vI 0, vU, vU] [] (stt g1) K
          refine aw_iconst (n := 0) (by decide +kernel) ?_
          refine aw_istore (i := 5) (by decide +kernel) (by decide) ?_
          show AW Γ l mX11_takeCoughs (d + 1) b 36 [vR 1, vI x1, vI v1, vI 0, vI 0, vI 0, vU] [] (stt g1) K
          exact hG
        · have hG := hG.2 hc
          refine aw_iconst (n := 1) (by decide +kernel) ?_
          refine aw_goto (off := 4) (tgt := 29) (by decide +kernel) (by decide) ?_
          refine aw_istore_n (k' := 3) (by decide +kernel) (by decide) ?_
          show AW Γ l mX11_takeCoughs (d + 1) b 30 [vR 1, vI x1, vI v1, vI 1, vU, vU, vU] [] (stt g1) K
          refine aw_iconst (n := 0) (by decide +kernel) ?_
          refine aw_istore (i := 4) (by decide +kernel) (by decide) ?_
          show AW Γ l mX11_takeCoughs (d + 1) b 33 [vR 1, vI x1, vI v1, vI 1, vI 0, vU, vU] [] (stt g1) K
          refine aw_iconst (n := 0) (by decide +kernel) ?_
          refine aw_istore (i := 5) (by decide +kernel) (by decide) ?_
          show AW Γ l mX11_takeCoughs (d + 1) b 36 [vR 1, vI x1, vI v1, vI 1, vI 0, vI 0, vU] [] (stt g1) K
          exact hG
  · exact hG
set_option maxHeartbeats 1000000 in
theorem wpX11_takeCoughs_36 {Γ : Cfg} {l : Launch} {d b : Nat} {g : GG} {K : Ou → HP → Prop} {x1 : Int} {y2 : Int} {y3 : Int} {y4 : Int} {y5 : Int} (hb : 1 ≤ b) (hF : (wr y2 ≤ wr y5 → (¬ wr y3 = 0 → K (.inl (vI y4)) (stt g)) ∧ (¬ (¬ wr y3 = 0) → K (.inr "java/lang/IllegalArgumentException") (stt g))) ∧ (¬ (wr y2 ≤ wr y5) → (wr y3 = 0 → AW Γ l mX11_takeCoughs (d + 1) b 36 [vR 1, vI x1, vI y2, vI 0, vI (iOr y4 (iShl 1 (iAnd (cel g 3 y5) 15))), vI (y5 + 1), vI (cel g 3 y5)] [] (stt g) K) ∧ (¬ (wr y3 = 0) → (wr (cel g 3 y5) < 1 → AW Γ l mX11_takeCoughs (d + 1) b 36 [vR 1, vI x1, vI y2, vI 0, vI (iOr y4 (iShl 1 (iAnd (cel g 3 y5) 15))), vI (y5 + 1), vI (cel g 3 y5)] [] (stt g) K) ∧ (¬ (wr (cel g 3 y5) < 1) → (9 < wr (cel g 3 y5) → AW Γ l mX11_takeCoughs (d + 1) b 36 [vR 1, vI x1, vI y2, vI 0, vI (iOr y4 (iShl 1 (iAnd (cel g 3 y5) 15))), vI (y5 + 1), vI (cel g 3 y5)] [] (stt g) K) ∧ (¬ (9 < wr (cel g 3 y5)) → AW Γ l mX11_takeCoughs (d + 1) b 36 [vR 1, vI x1, vI y2, vI 1, vI (iOr y4 (iShl 1 (iAnd (cel g 3 y5) 15))), vI (y5 + 1), vI (cel g 3 y5)] [] (stt g) K))))) : AW Γ l mX11_takeCoughs (d + 1) b 36 [vR 1, vI x1, vI y2, vI y3, vI y4, vI y5, vU] [] (stt g) K := by
  refine aw_iload (i := 5) (by decide +kernel) rfl ?_
  refine aw_iload_n (k' := 2) (by decide +kernel) rfl ?_
  refine ax_icmp_ge (off := 58) (tgt := 97) (x' := wr y5) (y' := wr y2) (by decide +kernel) (by decide) rfl rfl (fun hc => ?_) (fun hc => ?_)
  · have hF := hF.1 hc
    refine aw_iload_n (k' := 3) (by decide +kernel) rfl ?_
    refine ax_if_ne (off := 14) (tgt := 112) (x' := wr y3) (by decide +kernel) (by decide) rfl (fun hc => ?_) (fun hc => ?_)
    · have hF := hF.1 hc
      refine aw_iload (i := 4) (by decide +kernel) rfl ?_
      exact aw_iret (by decide +kernel) rfl hF
    · have hF := hF.2 hc
      exact thr130W (ix := 369) (i := 12) rfl (by decide) (by decide +kernel) (by decide +kernel) (by decide +kernel) (by decide +kernel) (by decide +kernel) (by decide +kernel) rfl (by omega) rfl (by simp [oneSlot]) (Nat.le_of_ble_eq_true rfl) hF
  · have hF := hF.2 hc
    refine aw_aload_n (k' := 0) (by decide +kernel) rfl ?_
    refine gfX11_10 rfl (by decide +kernel) (OB.at (ci := 9) (show shp 1 = (19, 0) by decide +kernel) (by decide)) ?_
    refine AW.topR (show RC 1 0 = 2 by decide +kernel) ?_
    refine gfX11_151 rfl (by decide +kernel) (OB.at (ci := 7) (show shp 2 = (17, 0) by decide +kernel) (by decide)) ?_
    refine AW.topR (show RC 2 0 = 3 by decide +kernel) ?_
    refine aw_iload (i := 5) (by decide +kernel) rfl ?_
    refine aw_callS (y := yX11_cell) (M2 := mX11_cell) (as := [vR 3, vI y5]) (S := []) (d2 := d) (b2 := 0) (b3 := b) cwX11_cell mlX11_168 stX11_cell (by decide +kernel) rfl (Nat.le_refl _) (Nat.le_of_eq (Nat.zero_add _)) rfl rfl (by simp [oneSlot]) (Nat.le_of_ble_eq_true rfl) (c_cell (show (shp 3).1 = 0 by decide +kernel) ?_)
    show AW Γ l mX11_takeCoughs (d + 1) b 54 [vR 1, vI x1, vI y2, vI y3, vI y4, vI y5, vU] [vI (cel g 3 y5)] (stt g) K
    refine aw_istore (i := 6) (by decide +kernel) (by decide) ?_
    show AW Γ l mX11_takeCoughs (d + 1) b 56 [vR 1, vI x1, vI y2, vI y3, vI y4, vI y5, vI (cel g 3 y5)] [] (stt g) K
    refine aw_iload_n (k' := 3) (by decide +kernel) rfl ?_
    refine ax_if_eq (off := 20) (tgt := 77) (x' := wr y3) (by decide +kernel) (by decide) rfl (fun hc => ?_) (fun hc => ?_)
    · have hF := hF.1 hc
      refine aw_iconst (n := 0) (by decide +kernel) ?_
      refine aw_istore_n (k' := 3) (by decide +kernel) (by decide) ?_
      show AW Γ l mX11_takeCoughs (d + 1) b 79 [vR 1, vI x1, vI y2, vI 0, vI y4, vI y5, vI (cel g 3 y5)] [] (stt g) K
      refine aw_iload (i := 4) (by decide +kernel) rfl ?_
      refine aw_iconst (n := 1) (by decide +kernel) ?_
      refine aw_iload (i := 6) (by decide +kernel) rfl ?_
      refine aw_bipush (n := 15) (by decide +kernel) (by decide +kernel) ?_
      refine aw_iand (by decide +kernel) ?_
      refine aw_ishl (by decide +kernel) ?_
      refine aw_ior (by decide +kernel) ?_
      refine aw_istore (i := 4) (by decide +kernel) (by decide) ?_
      show AW Γ l mX11_takeCoughs (d + 1) b 91 [vR 1, vI x1, vI y2, vI 0, vI (iOr y4 (iShl 1 (iAnd (cel g 3 y5) 15))), vI y5, vI (cel g 3 y5)] [] (stt g) K
      refine aw_iinc (i := 5) (n := 1) (by decide +kernel) rfl (by decide) ?_
      show AW Γ l mX11_takeCoughs (d + 1) b 94 [vR 1, vI x1, vI y2, vI 0, vI (iOr y4 (iShl 1 (iAnd (cel g 3 y5) 15))), vI (y5 + 1), vI (cel g 3 y5)] [] (stt g) K
      refine aw_goto (off := -58) (tgt := 36) (by decide +kernel) (by decide) ?_
      exact hF
    · have hF := hF.2 hc
      refine aw_iload (i := 6) (by decide +kernel) rfl ?_
      refine aw_iconst (n := 1) (by decide +kernel) ?_
      refine ax_icmp_lt (off := 14) (tgt := 77) (x' := wr (cel g 3 y5)) (y' := 1) (by decide +kernel) (by decide) rfl (by decide +kernel) (fun hc => ?_) (fun hc => ?_)
      · have hF := hF.1 hc
        refine aw_iconst (n := 0) (by decide +kernel) ?_
        refine aw_istore_n (k' := 3) (by decide +kernel) (by decide) ?_
        show AW Γ l mX11_takeCoughs (d + 1) b 79 [vR 1, vI x1, vI y2, vI 0, vI y4, vI y5, vI (cel g 3 y5)] [] (stt g) K
        refine aw_iload (i := 4) (by decide +kernel) rfl ?_
        refine aw_iconst (n := 1) (by decide +kernel) ?_
        refine aw_iload (i := 6) (by decide +kernel) rfl ?_
        refine aw_bipush (n := 15) (by decide +kernel) (by decide +kernel) ?_
        refine aw_iand (by decide +kernel) ?_
        refine aw_ishl (by decide +kernel) ?_
        refine aw_ior (by decide +kernel) ?_
        refine aw_istore (i := 4) (by decide +kernel) (by decide) ?_
        show AW Γ l mX11_takeCoughs (d + 1) b 91 [vR 1, vI x1, vI y2, vI 0, vI (iOr y4 (iShl 1 (iAnd (cel g 3 y5) 15))), vI y5, vI (cel g 3 y5)] [] (stt g) K
        refine aw_iinc (i := 5) (n := 1) (by decide +kernel) rfl (by decide) ?_
        show AW Γ l mX11_takeCoughs (d + 1) b 94 [vR 1, vI x1, vI y2, vI 0, vI (iOr y4 (iShl 1 (iAnd (cel g 3 y5) 15))), vI (y5 + 1), vI (cel g 3 y5)] [] (stt g) K
        refine aw_goto (off := -58) (tgt := 36) (by decide +kernel) (by decide) ?_
        exact hF
      · have hF := hF.2 hc
        refine aw_iload (i := 6) (by decide +kernel) rfl ?_
        refine aw_bipush (n := 9) (by decide +kernel) (by decide +kernel) ?_
        refine ax_icmp_gt (off := 7) (tgt := 77) (x' := wr (cel g 3 y5)) (y' := 9) (by decide +kernel) (by decide) rfl (by decide +kernel) (fun hc => ?_) (fun hc => ?_)
        · have hF := hF.1 hc
          refine aw_iconst (n := 0) (by decide +kernel) ?_
          refine aw_istore_n (k' := 3) (by decide +kernel) (by decide) ?_
          show AW Γ l mX11_takeCoughs (d + 1) b 79 [vR 1, vI x1, vI y2, vI 0, vI y4, vI y5, vI (cel g 3 y5)] [] (stt g) K
          refine aw_iload (i := 4) (by decide +kernel) rfl ?_
          refine aw_iconst (n := 1) (by decide +kernel) ?_
          refine aw_iload (i := 6) (by decide +kernel) rfl ?_
          refine aw_bipush (n := 15) (by decide +kernel) (by decide +kernel) ?_
          refine aw_iand (by decide +kernel) ?_
          refine aw_ishl (by decide +kernel) ?_
          refine aw_ior (by decide +kernel) ?_
          refine aw_istore (i := 4) (by decide +kernel) (by decide) ?_
          show AW Γ l mX11_takeCoughs (d + 1) b 91 [vR 1, vI x1, vI y2, vI 0, vI (iOr y4 (iShl 1 (iAnd (cel g 3 y5) 15))), vI y5, vI (cel g 3 y5)] [] (stt g) K
          refine aw_iinc (i := 5) (n := 1) (by decide +kernel) rfl (by decide) ?_
          show AW Γ l mX11_takeCoughs (d + 1) b 94 [vR 1, vI x1, vI y2, vI 0, vI (iOr y4 (iShl 1 (iAnd (cel g 3 y5) 15))), vI (y5 + 1), vI (cel g 3 y5)] [] (stt g) K
          refine aw_goto (off := -58) (tgt := 36) (by decide +kernel) (by decide) ?_
          exact hF
        · have hF := hF.2 hc
          refine aw_iconst (n := 1) (by decide +kernel) ?_
          refine aw_goto (off := 4) (tgt := 78) (by decide +kernel) (by decide) ?_
          refine aw_istore_n (k' := 3) (by decide +kernel) (by decide) ?_
          show AW Γ l mX11_takeCoughs (d + 1) b 79 [vR 1, vI x1, vI y2, vI 1, vI y4, vI y5, vI (cel g 3 y5)] [] (stt g) K
          refine aw_iload (i := 4) (by decide +kernel) rfl ?_
          refine aw_iconst (n := 1) (by decide +kernel) ?_
          refine aw_iload (i := 6) (by decide +kernel) rfl ?_
          refine aw_bipush (n := 15) (by decide +kernel) (by decide +kernel) ?_
          refine aw_iand (by decide +kernel) ?_
          refine aw_ishl (by decide +kernel) ?_
          refine aw_ior (by decide +kernel) ?_
          refine aw_istore (i := 4) (by decide +kernel) (by decide) ?_
          show AW Γ l mX11_takeCoughs (d + 1) b 91 [vR 1, vI x1, vI y2, vI 1, vI (iOr y4 (iShl 1 (iAnd (cel g 3 y5) 15))), vI y5, vI (cel g 3 y5)] [] (stt g) K
          refine aw_iinc (i := 5) (n := 1) (by decide +kernel) rfl (by decide) ?_
          show AW Γ l mX11_takeCoughs (d + 1) b 94 [vR 1, vI x1, vI y2, vI 1, vI (iOr y4 (iShl 1 (iAnd (cel g 3 y5) 15))), vI (y5 + 1), vI (cel g 3 y5)] [] (stt g) K
          refine aw_goto (off := -58) (tgt := 36) (by decide +kernel) (by decide) ?_
          exact hF

set_option maxHeartbeats 1000000 in
theorem wpX11_bestCough {Γ : Cfg} {l : Launch} {d b : Nat} {g : GG} {K : Ou → HP → Prop} {x0 : Int} {x1 : Int} (hF : AW Γ l mX11_bestCough (d + 1) b 7 [vI x0, vI x1, vI 0, vI 0, vI 0, vU, vU] [] (stt g) K) : Ct Γ l (d + 1) b yX11_bestCough mX11_bestCough [vI x0, vI x1] (stt g) K := by
  refine Ct.enter (L := [vI x0, vI x1, vU, vU, vU, vU, vU]) rfl rfl rfl (by decide +kernel) (by simp [oneSlot]) (Nat.le_of_ble_eq_true rfl) rfl ?_
  refine aw_iconst (n := 0) (by decide +kernel) ?_
  refine aw_istore_n (k' := 2) (by decide +kernel) (by decide) ?_
  show AW Γ l mX11_bestCough (d + 1) b 2 [vI x0, vI x1, vI 0, vU, vU, vU, vU] [] (stt g) K
  refine aw_iconst (n := 0) (by decide +kernel) ?_
  refine aw_istore_n (k' := 3) (by decide +kernel) (by decide) ?_
  show AW Γ l mX11_bestCough (d + 1) b 4 [vI x0, vI x1, vI 0, vI 0, vU, vU, vU] [] (stt g) K
  refine aw_iconst (n := 0) (by decide +kernel) ?_
  refine aw_istore (i := 4) (by decide +kernel) (by decide) ?_
  show AW Γ l mX11_bestCough (d + 1) b 7 [vI x0, vI x1, vI 0, vI 0, vI 0, vU, vU] [] (stt g) K
  exact hF
set_option maxHeartbeats 1000000 in
theorem wpX11_bestCough_7 {Γ : Cfg} {l : Launch} {d b : Nat} {g : GG} {K : Ou → HP → Prop} {x0 : Int} {x1 : Int} {y2 : Int} {y3 : Int} {y4 : Int} (hF : (wr x1 < wr y4 → K (.inl (vI y3)) (stt g)) ∧ (¬ (wr x1 < wr y4) → (wr y4 < 9 → (¬ wr (iAnd x0 ((iShl 1 (y4 + 1)) - 1)) = 0 → Ct Γ l d 0 yX11_leastBit mX11_leastBit [vI (iAnd (iAnd x0 ((iShl 1 (y4 + 1)) - 1)) y2)] (stt g) (bI (fun v1 g1 => (¬ wr v1 = -1 → AW Γ l mX11_bestCough (d + 1) b 7 [vI x0, vI x1, vI (iShl (iOr y2 0) 1), vI v1, vI (y4 + 1), vI (iAnd x0 ((iShl 1 (y4 + 1)) - 1)), vI (iAnd (iAnd x0 ((iShl 1 (y4 + 1)) - 1)) y2)] [] (stt g1) K) ∧ (¬ (¬ wr v1 = -1) → AW Γ l mX11_bestCough (d + 1) b 7 [vI x0, vI x1, vI (iShl (iOr y2 1) 1), vI v1, vI (y4 + 1), vI (iAnd x0 ((iShl 1 (y4 + 1)) - 1)), vI (iAnd (iAnd x0 ((iShl 1 (y4 + 1)) - 1)) y2)] [] (stt g1) K)) K)) ∧ (¬ (¬ wr (iAnd x0 ((iShl 1 (y4 + 1)) - 1)) = 0) → AW Γ l mX11_bestCough (d + 1) b 7 [vI x0, vI x1, vI (iShl (iOr y2 0) 1), vI 0, vI (y4 + 1), vI (iAnd x0 ((iShl 1 (y4 + 1)) - 1)), vI (iAnd (iAnd x0 ((iShl 1 (y4 + 1)) - 1)) y2)] [] (stt g) K)) ∧ (¬ (wr y4 < 9) → (¬ wr x0 = 0 → Ct Γ l d 0 yX11_leastBit mX11_leastBit [vI (iAnd x0 y2)] (stt g) (bI (fun v2 g2 => (¬ wr v2 = -1 → AW Γ l mX11_bestCough (d + 1) b 7 [vI x0, vI x1, vI (iShl (iOr y2 0) 1), vI v2, vI (y4 + 1), vI x0, vI (iAnd x0 y2)] [] (stt g2) K) ∧ (¬ (¬ wr v2 = -1) → AW Γ l mX11_bestCough (d + 1) b 7 [vI x0, vI x1, vI (iShl (iOr y2 1) 1), vI v2, vI (y4 + 1), vI x0, vI (iAnd x0 y2)] [] (stt g2) K)) K)) ∧ (¬ (¬ wr x0 = 0) → AW Γ l mX11_bestCough (d + 1) b 7 [vI x0, vI x1, vI (iShl (iOr y2 0) 1), vI 0, vI (y4 + 1), vI x0, vI (iAnd x0 y2)] [] (stt g) K)))) : AW Γ l mX11_bestCough (d + 1) b 7 [vI x0, vI x1, vI y2, vI y3, vI y4, vU, vU] [] (stt g) K := by
  refine aw_iload (i := 4) (by decide +kernel) rfl ?_
  refine aw_iload_n (k' := 1) (by decide +kernel) rfl ?_
  refine ax_icmp_gt (off := 69) (tgt := 79) (x' := wr y4) (y' := wr x1) (by decide +kernel) (by decide) rfl rfl (fun hc => ?_) (fun hc => ?_)
  · have hF := hF.1 hc
    refine aw_iload_n (k' := 3) (by decide +kernel) rfl ?_
    exact aw_iret (by decide +kernel) rfl hF
  · have hF := hF.2 hc
    refine aw_iload (i := 4) (by decide +kernel) rfl ?_
    refine aw_bipush (n := 9) (by decide +kernel) (by decide +kernel) ?_
    refine ax_icmp_lt (off := 7) (tgt := 24) (x' := wr y4) (y' := 9) (by decide +kernel) (by decide) rfl (by decide +kernel) (fun hc => ?_) (fun hc => ?_)
    · have hF := hF.1 hc
      refine aw_iload_n (k' := 0) (by decide +kernel) rfl ?_
      refine aw_iconst (n := 1) (by decide +kernel) ?_
      refine aw_iload (i := 4) (by decide +kernel) rfl ?_
      refine aw_iconst (n := 1) (by decide +kernel) ?_
      refine aw_iadd (by decide +kernel) ?_
      refine aw_ishl (by decide +kernel) ?_
      refine aw_iconst (n := 1) (by decide +kernel) ?_
      refine aw_isub (by decide +kernel) ?_
      refine aw_iand (by decide +kernel) ?_
      refine aw_istore (i := 5) (by decide +kernel) (by decide) ?_
      show AW Γ l mX11_bestCough (d + 1) b 36 [vI x0, vI x1, vI y2, vI y3, vI y4, vI (iAnd x0 ((iShl 1 (y4 + 1)) - 1)), vU] [] (stt g) K
      refine aw_iload (i := 5) (by decide +kernel) rfl ?_
      refine aw_iload_n (k' := 2) (by decide +kernel) rfl ?_
      refine aw_iand (by decide +kernel) ?_
      refine aw_istore (i := 6) (by decide +kernel) (by decide) ?_
      show AW Γ l mX11_bestCough (d + 1) b 42 [vI x0, vI x1, vI y2, vI y3, vI y4, vI (iAnd x0 ((iShl 1 (y4 + 1)) - 1)), vI (iAnd (iAnd x0 ((iShl 1 (y4 + 1)) - 1)) y2)] [] (stt g) K
      refine aw_iload (i := 5) (by decide +kernel) rfl ?_
      refine ax_if_ne (off := 8) (tgt := 52) (x' := wr (iAnd x0 ((iShl 1 (y4 + 1)) - 1))) (by decide +kernel) (by decide) rfl (fun hc => ?_) (fun hc => ?_)
      · have hF := hF.1 hc
        refine aw_iload (i := 6) (by decide +kernel) rfl ?_
        refine aw_callS (y := yX11_leastBit) (M2 := mX11_leastBit) (as := [vI (iAnd (iAnd x0 ((iShl 1 (y4 + 1)) - 1)) y2)]) (S := []) (d2 := d) (b2 := 0) (b3 := b) cwX11_leastBit mlX11_371 stX11_leastBit (by decide +kernel) rfl (Nat.le_refl _) (Nat.le_of_eq (Nat.zero_add _)) rfl rfl (by simp [oneSlot]) (Nat.le_of_ble_eq_true rfl) (Ct.mono hF ?_)
        rintro o h' (⟨v1, g1, rfl, rfl, hG⟩ | ⟨E, g, rfl, rfl, hG⟩)
        · show AW Γ l mX11_bestCough (d + 1) b 57 [vI x0, vI x1, vI y2, vI y3, vI y4, vI (iAnd x0 ((iShl 1 (y4 + 1)) - 1)), vI (iAnd (iAnd x0 ((iShl 1 (y4 + 1)) - 1)) y2)] [vI v1] (stt g1) K
          refine aw_istore_n (k' := 3) (by decide +kernel) (by decide) ?_
          show AW Γ l mX11_bestCough (d + 1) b 58 [vI x0, vI x1, vI y2, vI v1, vI y4, vI (iAnd x0 ((iShl 1 (y4 + 1)) - 1)), vI (iAnd (iAnd x0 ((iShl 1 (y4 + 1)) - 1)) y2)] [] (stt g1) K
          refine aw_iload_n (k' := 2) (by decide +kernel) rfl ?_
          refine aw_iload_n (k' := 3) (by decide +kernel) rfl ?_
          refine aw_iconst (n := -1) (by decide +kernel) ?_
          refine ax_icmp_ne (off := 7) (tgt := 68) (x' := wr v1) (y' := -1) (by decide +kernel) (by decide) rfl (by decide +kernel) (fun hc => ?_) (fun hc => ?_)
          · have hG := hG.1 hc
            refine aw_iconst (n := 0) (by decide +kernel) ?_
            refine aw_ior (by decide +kernel) ?_
            refine aw_iconst (n := 1) (by decide +kernel) ?_
            refine aw_ishl (by decide +kernel) ?_
            refine aw_istore_n (k' := 2) (by decide +kernel) (by decide) ?_
            show AW Γ l mX11_bestCough (d + 1) b 73 [vI x0, vI x1, vI (iShl (iOr y2 0) 1), vI v1, vI y4, vI (iAnd x0 ((iShl 1 (y4 + 1)) - 1)), vI (iAnd (iAnd x0 ((iShl 1 (y4 + 1)) - 1)) y2)] [] (stt g1) K
            refine aw_iinc (i := 4) (n := 1) (by decide +kernel) rfl (by decide) ?_
            show AW Γ l mX11_bestCough (d + 1) b 76 [vI x0, vI x1, vI (iShl (iOr y2 0) 1), vI v1, vI (y4 + 1), vI (iAnd x0 ((iShl 1 (y4 + 1)) - 1)), vI (iAnd (iAnd x0 ((iShl 1 (y4 + 1)) - 1)) y2)] [] (stt g1) K
            refine aw_goto (off := -69) (tgt := 7) (by decide +kernel) (by decide) ?_
            exact hG
          · have hG := hG.2 hc
            refine aw_iconst (n := 1) (by decide +kernel) ?_
            refine aw_goto (off := 4) (tgt := 69) (by decide +kernel) (by decide) ?_
            refine aw_ior (by decide +kernel) ?_
            refine aw_iconst (n := 1) (by decide +kernel) ?_
            refine aw_ishl (by decide +kernel) ?_
            refine aw_istore_n (k' := 2) (by decide +kernel) (by decide) ?_
            show AW Γ l mX11_bestCough (d + 1) b 73 [vI x0, vI x1, vI (iShl (iOr y2 1) 1), vI v1, vI y4, vI (iAnd x0 ((iShl 1 (y4 + 1)) - 1)), vI (iAnd (iAnd x0 ((iShl 1 (y4 + 1)) - 1)) y2)] [] (stt g1) K
            refine aw_iinc (i := 4) (n := 1) (by decide +kernel) rfl (by decide) ?_
            show AW Γ l mX11_bestCough (d + 1) b 76 [vI x0, vI x1, vI (iShl (iOr y2 1) 1), vI v1, vI (y4 + 1), vI (iAnd x0 ((iShl 1 (y4 + 1)) - 1)), vI (iAnd (iAnd x0 ((iShl 1 (y4 + 1)) - 1)) y2)] [] (stt g1) K
            refine aw_goto (off := -69) (tgt := 7) (by decide +kernel) (by decide) ?_
            exact hG
        · exact hG
      · have hF := hF.2 hc
        refine aw_iconst (n := 0) (by decide +kernel) ?_
        refine aw_istore_n (k' := 3) (by decide +kernel) (by decide) ?_
        show AW Γ l mX11_bestCough (d + 1) b 49 [vI x0, vI x1, vI y2, vI 0, vI y4, vI (iAnd x0 ((iShl 1 (y4 + 1)) - 1)), vI (iAnd (iAnd x0 ((iShl 1 (y4 + 1)) - 1)) y2)] [] (stt g) K
        refine aw_goto (off := 9) (tgt := 58) (by decide +kernel) (by decide) ?_
        refine aw_iload_n (k' := 2) (by decide +kernel) rfl ?_
        refine aw_iload_n (k' := 3) (by decide +kernel) rfl ?_
        refine aw_iconst (n := -1) (by decide +kernel) ?_
        refine ax_icmp_ne (off := 7) (tgt := 68) (x' := 0) (y' := -1) (by decide +kernel) (by decide) (by decide +kernel) (by decide +kernel) (fun hc => ?_) (fun hc => absurd (by decide) hc)
        refine aw_iconst (n := 0) (by decide +kernel) ?_
        refine aw_ior (by decide +kernel) ?_
        refine aw_iconst (n := 1) (by decide +kernel) ?_
        refine aw_ishl (by decide +kernel) ?_
        refine aw_istore_n (k' := 2) (by decide +kernel) (by decide) ?_
        show AW Γ l mX11_bestCough (d + 1) b 73 [vI x0, vI x1, vI (iShl (iOr y2 0) 1), vI 0, vI y4, vI (iAnd x0 ((iShl 1 (y4 + 1)) - 1)), vI (iAnd (iAnd x0 ((iShl 1 (y4 + 1)) - 1)) y2)] [] (stt g) K
        refine aw_iinc (i := 4) (n := 1) (by decide +kernel) rfl (by decide) ?_
        show AW Γ l mX11_bestCough (d + 1) b 76 [vI x0, vI x1, vI (iShl (iOr y2 0) 1), vI 0, vI (y4 + 1), vI (iAnd x0 ((iShl 1 (y4 + 1)) - 1)), vI (iAnd (iAnd x0 ((iShl 1 (y4 + 1)) - 1)) y2)] [] (stt g) K
        refine aw_goto (off := -69) (tgt := 7) (by decide +kernel) (by decide) ?_
        exact hF
    · have hF := hF.2 hc
      refine aw_iload_n (k' := 0) (by decide +kernel) rfl ?_
      refine aw_goto (off := 13) (tgt := 34) (by decide +kernel) (by decide) ?_
      refine aw_istore (i := 5) (by decide +kernel) (by decide) ?_
      show AW Γ l mX11_bestCough (d + 1) b 36 [vI x0, vI x1, vI y2, vI y3, vI y4, vI x0, vU] [] (stt g) K
      refine aw_iload (i := 5) (by decide +kernel) rfl ?_
      refine aw_iload_n (k' := 2) (by decide +kernel) rfl ?_
      refine aw_iand (by decide +kernel) ?_
      refine aw_istore (i := 6) (by decide +kernel) (by decide) ?_
      show AW Γ l mX11_bestCough (d + 1) b 42 [vI x0, vI x1, vI y2, vI y3, vI y4, vI x0, vI (iAnd x0 y2)] [] (stt g) K
      refine aw_iload (i := 5) (by decide +kernel) rfl ?_
      refine ax_if_ne (off := 8) (tgt := 52) (x' := wr x0) (by decide +kernel) (by decide) rfl (fun hc => ?_) (fun hc => ?_)
      · have hF := hF.1 hc
        refine aw_iload (i := 6) (by decide +kernel) rfl ?_
        refine aw_callS (y := yX11_leastBit) (M2 := mX11_leastBit) (as := [vI (iAnd x0 y2)]) (S := []) (d2 := d) (b2 := 0) (b3 := b) cwX11_leastBit mlX11_371 stX11_leastBit (by decide +kernel) rfl (Nat.le_refl _) (Nat.le_of_eq (Nat.zero_add _)) rfl rfl (by simp [oneSlot]) (Nat.le_of_ble_eq_true rfl) (Ct.mono hF ?_)
        rintro o h' (⟨v2, g2, rfl, rfl, hG⟩ | ⟨E, g, rfl, rfl, hG⟩)
        · show AW Γ l mX11_bestCough (d + 1) b 57 [vI x0, vI x1, vI y2, vI y3, vI y4, vI x0, vI (iAnd x0 y2)] [vI v2] (stt g2) K
          refine aw_istore_n (k' := 3) (by decide +kernel) (by decide) ?_
          show AW Γ l mX11_bestCough (d + 1) b 58 [vI x0, vI x1, vI y2, vI v2, vI y4, vI x0, vI (iAnd x0 y2)] [] (stt g2) K
          refine aw_iload_n (k' := 2) (by decide +kernel) rfl ?_
          refine aw_iload_n (k' := 3) (by decide +kernel) rfl ?_
          refine aw_iconst (n := -1) (by decide +kernel) ?_
          refine ax_icmp_ne (off := 7) (tgt := 68) (x' := wr v2) (y' := -1) (by decide +kernel) (by decide) rfl (by decide +kernel) (fun hc => ?_) (fun hc => ?_)
          · have hG := hG.1 hc
            refine aw_iconst (n := 0) (by decide +kernel) ?_
            refine aw_ior (by decide +kernel) ?_
            refine aw_iconst (n := 1) (by decide +kernel) ?_
            refine aw_ishl (by decide +kernel) ?_
            refine aw_istore_n (k' := 2) (by decide +kernel) (by decide) ?_
            show AW Γ l mX11_bestCough (d + 1) b 73 [vI x0, vI x1, vI (iShl (iOr y2 0) 1), vI v2, vI y4, vI x0, vI (iAnd x0 y2)] [] (stt g2) K
            refine aw_iinc (i := 4) (n := 1) (by decide +kernel) rfl (by decide) ?_
            show AW Γ l mX11_bestCough (d + 1) b 76 [vI x0, vI x1, vI (iShl (iOr y2 0) 1), vI v2, vI (y4 + 1), vI x0, vI (iAnd x0 y2)] [] (stt g2) K
            refine aw_goto (off := -69) (tgt := 7) (by decide +kernel) (by decide) ?_
            exact hG
          · have hG := hG.2 hc
            refine aw_iconst (n := 1) (by decide +kernel) ?_
            refine aw_goto (off := 4) (tgt := 69) (by decide +kernel) (by decide) ?_
            refine aw_ior (by decide +kernel) ?_
            refine aw_iconst (n := 1) (by decide +kernel) ?_
            refine aw_ishl (by decide +kernel) ?_
            refine aw_istore_n (k' := 2) (by decide +kernel) (by decide) ?_
            show AW Γ l mX11_bestCough (d + 1) b 73 [vI x0, vI x1, vI (iShl (iOr y2 1) 1), vI v2, vI y4, vI x0, vI (iAnd x0 y2)] [] (stt g2) K
            refine aw_iinc (i := 4) (n := 1) (by decide +kernel) rfl (by decide) ?_
            show AW Γ l mX11_bestCough (d + 1) b 76 [vI x0, vI x1, vI (iShl (iOr y2 1) 1), vI v2, vI (y4 + 1), vI x0, vI (iAnd x0 y2)] [] (stt g2) K
            refine aw_goto (off := -69) (tgt := 7) (by decide +kernel) (by decide) ?_
            exact hG
        · exact hG
      · have hF := hF.2 hc
        refine aw_iconst (n := 0) (by decide +kernel) ?_
        refine aw_istore_n (k' := 3) (by decide +kernel) (by decide) ?_
        show AW Γ l mX11_bestCough (d + 1) b 49 [vI x0, vI x1, vI y2, vI 0, vI y4, vI x0, vI (iAnd x0 y2)] [] (stt g) K
        refine aw_goto (off := 9) (tgt := 58) (by decide +kernel) (by decide) ?_
        refine aw_iload_n (k' := 2) (by decide +kernel) rfl ?_
        refine aw_iload_n (k' := 3) (by decide +kernel) rfl ?_
        refine aw_iconst (n := -1) (by decide +kernel) ?_
        refine ax_icmp_ne (off := 7) (tgt := 68) (x' := 0) (y' := -1) (by decide +kernel) (by decide) (by decide +kernel) (by decide +kernel) (fun hc => ?_) (fun hc => absurd (by decide) hc)
        refine aw_iconst (n := 0) (by decide +kernel) ?_
        refine aw_ior (by decide +kernel) ?_
        refine aw_iconst (n := 1) (by decide +kernel) ?_
        refine aw_ishl (by decide +kernel) ?_
        refine aw_istore_n (k' := 2) (by decide +kernel) (by decide) ?_
        show AW Γ l mX11_bestCough (d + 1) b 73 [vI x0, vI x1, vI (iShl (iOr y2 0) 1), vI 0, vI y4, vI x0, vI (iAnd x0 y2)] [] (stt g) K
        refine aw_iinc (i := 4) (n := 1) (by decide +kernel) rfl (by decide) ?_
        show AW Γ l mX11_bestCough (d + 1) b 76 [vI x0, vI x1, vI (iShl (iOr y2 0) 1), vI 0, vI (y4 + 1), vI x0, vI (iAnd x0 y2)] [] (stt g) K
        refine aw_goto (off := -69) (tgt := 7) (by decide +kernel) (by decide) ?_
        exact hF

set_option maxHeartbeats 1000000 in
theorem wpX11_leastBit {Γ : Cfg} {l : Launch} {d b : Nat} {g : GG} {K : Ou → HP → Prop} {x0 : Int} (hF : AW Γ l mX11_leastBit d b 2 [vI x0, vI 0] [] (stt g) K) : Ct Γ l d b yX11_leastBit mX11_leastBit [vI x0] (stt g) K := by
  refine Ct.enter (L := [vI x0, vU]) rfl rfl rfl (by decide +kernel) (by simp [oneSlot]) (Nat.le_of_ble_eq_true rfl) rfl ?_
  refine aw_iconst (n := 0) (by decide +kernel) ?_
  refine aw_istore_n (k' := 1) (by decide +kernel) (by decide) ?_
  show AW Γ l mX11_leastBit d b 2 [vI x0, vI 0] [] (stt g) K
  exact hF
set_option maxHeartbeats 1000000 in
theorem wpX11_leastBit_2 {Γ : Cfg} {l : Launch} {d b : Nat} {g : GG} {K : Ou → HP → Prop} {x0 : Int} {y1 : Int} (hF : (9 < wr y1 → K (.inl (vI (-1))) (stt g)) ∧ (¬ (9 < wr y1) → (wr (iAnd (iShr x0 y1) 1) = 0 → AW Γ l mX11_leastBit d b 2 [vI x0, vI (y1 + 1)] [] (stt g) K) ∧ (¬ (wr (iAnd (iShr x0 y1) 1) = 0) → K (.inl (vI y1)) (stt g)))) : AW Γ l mX11_leastBit d b 2 [vI x0, vI y1] [] (stt g) K := by
  refine aw_iload_n (k' := 1) (by decide +kernel) rfl ?_
  refine aw_bipush (n := 9) (by decide +kernel) (by decide +kernel) ?_
  refine ax_icmp_gt (off := 19) (tgt := 24) (x' := wr y1) (y' := 9) (by decide +kernel) (by decide) rfl (by decide +kernel) (fun hc => ?_) (fun hc => ?_)
  · have hF := hF.1 hc
    refine aw_iconst (n := -1) (by decide +kernel) ?_
    exact aw_iret (by decide +kernel) rfl hF
  · have hF := hF.2 hc
    refine aw_iload_n (k' := 0) (by decide +kernel) rfl ?_
    refine aw_iload_n (k' := 1) (by decide +kernel) rfl ?_
    refine aw_ishr (by decide +kernel) ?_
    refine aw_iconst (n := 1) (by decide +kernel) ?_
    refine aw_iand (by decide +kernel) ?_
    refine ax_if_eq (off := 5) (tgt := 18) (x' := wr (iAnd (iShr x0 y1) 1)) (by decide +kernel) (by decide) rfl (fun hc => ?_) (fun hc => ?_)
    · have hF := hF.1 hc
      refine aw_iinc (i := 1) (n := 1) (by decide +kernel) rfl (by decide) ?_
      show AW Γ l mX11_leastBit d b 21 [vI x0, vI (y1 + 1)] [] (stt g) K
      refine aw_goto (off := -19) (tgt := 2) (by decide +kernel) (by decide) ?_
      exact hF
    · have hF := hF.2 hc
      refine aw_iload_n (k' := 1) (by decide +kernel) rfl ?_
      exact aw_iret (by decide +kernel) rfl hF

set_option maxHeartbeats 1000000 in
theorem wpX11_pairs {Γ : Cfg} {l : Launch} {d b : Nat} {g : GG} {K : Ou → HP → Prop} {x1 : Int} (hb : 1 ≤ b) (hF : (wr x1 = -1 → Ct Γ l d 0 yX6_find mX6_find [vR 167, vR 8] (stt g) (bV (fun g1 => (¬ wr x1 = -1 → K (.inl (vI (cel g1 169 x1))) (stt g1)) ∧ (¬ (¬ wr x1 = -1) → K (.inl (vI (g1 167 2))) (stt g1))) K)) ∧ (¬ (wr x1 = -1) → Ct Γ l d 1 yX11_needPerson mX11_needPerson [vR 1, vI x1] (stt g) (bV (fun g2 => Ct Γ l d 0 yX6_find mX6_find [vR 167, vR 8] (stt g2) (bV (fun g3 => (¬ wr x1 = -1 → K (.inl (vI (cel g3 169 x1))) (stt g3)) ∧ (¬ (¬ wr x1 = -1) → K (.inl (vI (g3 167 2))) (stt g3))) K)) K))) : Ct Γ l (d + 1) b yX11_pairs mX11_pairs [vR 1, vI x1] (stt g) K := by
  refine Ct.enter (L := [vR 1, vI x1]) rfl rfl rfl (by decide +kernel) (by simp [oneSlot]) (Nat.le_of_ble_eq_true rfl) rfl ?_
  refine aw_iload_n (k' := 1) (by decide +kernel) rfl ?_
  refine aw_iconst (n := -1) (by decide +kernel) ?_
  refine ax_icmp_eq (off := 8) (tgt := 10) (x' := wr x1) (y' := -1) (by decide +kernel) (by decide) rfl (by decide +kernel) (fun hc => ?_) (fun hc => ?_)
  · have hF := hF.1 hc
    refine aw_aload_n (k' := 0) (by decide +kernel) rfl ?_
    refine gfX11_81 rfl (by decide +kernel) (OB.at (ci := 9) (show shp 1 = (19, 0) by decide +kernel) (by decide)) ?_
    refine AW.topR (show RC 1 12 = 167 by decide +kernel) ?_
    refine aw_aload_n (k' := 0) (by decide +kernel) rfl ?_
    refine gfX11_26 rfl (by decide +kernel) (OB.at (ci := 9) (show shp 1 = (19, 0) by decide +kernel) (by decide)) ?_
    refine AW.topR (show RC 1 2 = 8 by decide +kernel) ?_
    refine aw_callV (y := yX6_find) (M2 := mX6_find) (as := [vR 8]) (S := []) (t := 167) (d2 := d) (b2 := 0) (b3 := b) cwX6_find mlX11_374 imX6_find seX6_find (by decide +kernel) rfl (ci := 5) rfl (OB.at (ci := 5) (show shp 167 = (15, 0) by decide +kernel) (by decide)) (Nat.le_refl _) (Nat.le_of_eq (Nat.zero_add _)) rfl rfl (by simp [oneSlot]) (Nat.le_of_ble_eq_true rfl) (Ct.mono hF ?_)
    rintro o h' (⟨g1, rfl, rfl, hG⟩ | ⟨E, g, rfl, rfl, hG⟩)
    · show AW Γ l mX11_pairs (d + 1) b 21 [vR 1, vI x1] [] (stt g1) K
      refine aw_iload_n (k' := 1) (by decide +kernel) rfl ?_
      refine aw_iconst (n := -1) (by decide +kernel) ?_
      refine ax_icmp_ne (off := 13) (tgt := 36) (x' := wr x1) (y' := -1) (by decide +kernel) (by decide) rfl (by decide +kernel) (fun hc => ?_) (fun hc => ?_)
      · have hG := hG.1 hc
        refine aw_aload_n (k' := 0) (by decide +kernel) rfl ?_
        refine gfX11_81 rfl (by decide +kernel) (OB.at (ci := 9) (show shp 1 = (19, 0) by decide +kernel) (by decide)) ?_
        refine AW.topR (show RC 1 12 = 167 by decide +kernel) ?_
        refine gfX11_379 rfl (by decide +kernel) (OB.at (ci := 5) (show shp 167 = (15, 0) by decide +kernel) (by decide)) ?_
        refine AW.topR (show RC 167 1 = 169 by decide +kernel) ?_
        refine aw_iload_n (k' := 1) (by decide +kernel) rfl ?_
        refine aw_callS (y := yX11_cell) (M2 := mX11_cell) (as := [vR 169, vI x1]) (S := []) (d2 := d) (b2 := 0) (b3 := b) cwX11_cell mlX11_168 stX11_cell (by decide +kernel) rfl (Nat.le_refl _) (Nat.le_of_eq (Nat.zero_add _)) rfl rfl (by simp [oneSlot]) (Nat.le_of_ble_eq_true rfl) (c_cell (show (shp 169).1 = 0 by decide +kernel) ?_)
        show AW Γ l mX11_pairs (d + 1) b 47 [vR 1, vI x1] [vI (cel g1 169 x1)] (stt g1) K
        exact aw_iret (by decide +kernel) rfl hG
      · have hG := hG.2 hc
        refine aw_aload_n (k' := 0) (by decide +kernel) rfl ?_
        refine gfX11_81 rfl (by decide +kernel) (OB.at (ci := 9) (show shp 1 = (19, 0) by decide +kernel) (by decide)) ?_
        refine AW.topR (show RC 1 12 = 167 by decide +kernel) ?_
        refine gfX11_376 rfl (by decide +kernel) (OB.at (ci := 5) (show shp 167 = (15, 0) by decide +kernel) (by decide)) ?_
        refine aw_goto (off := 14) (tgt := 47) (by decide +kernel) (by decide) ?_
        exact aw_iret (by decide +kernel) rfl hG
    · exact hG
  · have hF := hF.2 hc
    refine aw_aload_n (k' := 0) (by decide +kernel) rfl ?_
    refine aw_iload_n (k' := 1) (by decide +kernel) rfl ?_
    refine aw_callV (y := yX11_needPerson) (M2 := mX11_needPerson) (as := [vI x1]) (S := []) (t := 1) (d2 := d) (b2 := 1) (b3 := b - 1) cwX11_needPerson mlX11_162 imX11_needPerson seX11_needPerson (by decide +kernel) rfl (ci := 9) rfl (OB.at (ci := 9) (show shp 1 = (19, 0) by decide +kernel) (by decide)) (Nat.le_refl _) (by omega) rfl rfl (by simp [oneSlot]) (Nat.le_of_ble_eq_true rfl) (Ct.mono hF ?_)
    rintro o h' (⟨g2, rfl, rfl, hG⟩ | ⟨E, g, rfl, rfl, hG⟩)
    · show AW Γ l mX11_pairs (d + 1) (b - 1) 10 [vR 1, vI x1] [] (stt g2) K
      refine aw_aload_n (k' := 0) (by decide +kernel) rfl ?_
      refine gfX11_81 rfl (by decide +kernel) (OB.at (ci := 9) (show shp 1 = (19, 0) by decide +kernel) (by decide)) ?_
      refine AW.topR (show RC 1 12 = 167 by decide +kernel) ?_
      refine aw_aload_n (k' := 0) (by decide +kernel) rfl ?_
      refine gfX11_26 rfl (by decide +kernel) (OB.at (ci := 9) (show shp 1 = (19, 0) by decide +kernel) (by decide)) ?_
      refine AW.topR (show RC 1 2 = 8 by decide +kernel) ?_
      refine aw_callV (y := yX6_find) (M2 := mX6_find) (as := [vR 8]) (S := []) (t := 167) (d2 := d) (b2 := 0) (b3 := b - 1) cwX6_find mlX11_374 imX6_find seX6_find (by decide +kernel) rfl (ci := 5) rfl (OB.at (ci := 5) (show shp 167 = (15, 0) by decide +kernel) (by decide)) (Nat.le_refl _) (Nat.le_of_eq (Nat.zero_add _)) rfl rfl (by simp [oneSlot]) (Nat.le_of_ble_eq_true rfl) (Ct.mono hG ?_)
      rintro o h' (⟨g3, rfl, rfl, hG⟩ | ⟨E, g, rfl, rfl, hG⟩)
      · show AW Γ l mX11_pairs (d + 1) (b - 1) 21 [vR 1, vI x1] [] (stt g3) K
        refine aw_iload_n (k' := 1) (by decide +kernel) rfl ?_
        refine aw_iconst (n := -1) (by decide +kernel) ?_
        refine ax_icmp_ne (off := 13) (tgt := 36) (x' := wr x1) (y' := -1) (by decide +kernel) (by decide) rfl (by decide +kernel) (fun hc => ?_) (fun hc => ?_)
        · have hG := hG.1 hc
          refine aw_aload_n (k' := 0) (by decide +kernel) rfl ?_
          refine gfX11_81 rfl (by decide +kernel) (OB.at (ci := 9) (show shp 1 = (19, 0) by decide +kernel) (by decide)) ?_
          refine AW.topR (show RC 1 12 = 167 by decide +kernel) ?_
          refine gfX11_379 rfl (by decide +kernel) (OB.at (ci := 5) (show shp 167 = (15, 0) by decide +kernel) (by decide)) ?_
          refine AW.topR (show RC 167 1 = 169 by decide +kernel) ?_
          refine aw_iload_n (k' := 1) (by decide +kernel) rfl ?_
          refine aw_callS (y := yX11_cell) (M2 := mX11_cell) (as := [vR 169, vI x1]) (S := []) (d2 := d) (b2 := 0) (b3 := b - 1) cwX11_cell mlX11_168 stX11_cell (by decide +kernel) rfl (Nat.le_refl _) (Nat.le_of_eq (Nat.zero_add _)) rfl rfl (by simp [oneSlot]) (Nat.le_of_ble_eq_true rfl) (c_cell (show (shp 169).1 = 0 by decide +kernel) ?_)
          show AW Γ l mX11_pairs (d + 1) (b - 1) 47 [vR 1, vI x1] [vI (cel g3 169 x1)] (stt g3) K
          exact aw_iret (by decide +kernel) rfl hG
        · have hG := hG.2 hc
          refine aw_aload_n (k' := 0) (by decide +kernel) rfl ?_
          refine gfX11_81 rfl (by decide +kernel) (OB.at (ci := 9) (show shp 1 = (19, 0) by decide +kernel) (by decide)) ?_
          refine AW.topR (show RC 1 12 = 167 by decide +kernel) ?_
          refine gfX11_376 rfl (by decide +kernel) (OB.at (ci := 5) (show shp 167 = (15, 0) by decide +kernel) (by decide)) ?_
          refine aw_goto (off := 14) (tgt := 47) (by decide +kernel) (by decide) ?_
          exact aw_iret (by decide +kernel) rfl hG
      · exact hG
    · exact hG

set_option maxHeartbeats 1000000 in
theorem wpX11_rests {Γ : Cfg} {l : Launch} {d b : Nat} {g : GG} {K : Ou → HP → Prop} {x1 : Int} (hb : 1 ≤ b) (hF : Ct Γ l d 1 yX11_needPerson mX11_needPerson [vR 1, vI x1] (stt g) (bV (fun g1 => Ct Γ l d 0 yX11_worstPlace mX11_worstPlace [vR 1, vI x1] (stt g1) (bI (fun v1 g2 => Ct Γ l d 0 yX7_weight mX7_weight [vR 153, vR 8, vI x1, vI v1] (stt g2) (bI (fun v2 g3 => Ct Γ l d 0 yX7_weight mX7_weight [vR 153, vR 8, vI x1, vI (cel g3 10 x1)] (stt g3) (bI (fun v3 g4 => AW Γ l mX11_rests (d + 1) (b - 1) 67 [vR 1, vI x1, vI v2, vI v3, vI (-(cel g4 12 x1)), vI 0, vI 0, vU, vU] [] (stt g4) K) K)) K)) K)) K)) : Ct Γ l (d + 1) b yX11_rests mX11_rests [vR 1, vI x1] (stt g) K := by
  refine Ct.enter (L := [vR 1, vI x1, vU, vU, vU, vU, vU, vU, vU]) rfl rfl rfl (by decide +kernel) (by simp [oneSlot]) (Nat.le_of_ble_eq_true rfl) rfl ?_
  refine aw_aload_n (k' := 0) (by decide +kernel) rfl ?_
  refine aw_iload_n (k' := 1) (by decide +kernel) rfl ?_
  refine aw_callV (y := yX11_needPerson) (M2 := mX11_needPerson) (as := [vI x1]) (S := []) (t := 1) (d2 := d) (b2 := 1) (b3 := b - 1) cwX11_needPerson mlX11_162 imX11_needPerson seX11_needPerson (by decide +kernel) rfl (ci := 9) rfl (OB.at (ci := 9) (show shp 1 = (19, 0) by decide +kernel) (by decide)) (Nat.le_refl _) (by omega) rfl rfl (by simp [oneSlot]) (Nat.le_of_ble_eq_true rfl) (Ct.mono hF ?_)
  rintro o h' (⟨g1, rfl, rfl, hG⟩ | ⟨E, g, rfl, rfl, hG⟩)
  · show AW Γ l mX11_rests (d + 1) (b - 1) 5 [vR 1, vI x1, vU, vU, vU, vU, vU, vU, vU] [] (stt g1) K
    refine aw_aload_n (k' := 0) (by decide +kernel) rfl ?_
    refine gfX11_58 rfl (by decide +kernel) (OB.at (ci := 9) (show shp 1 = (19, 0) by decide +kernel) (by decide)) ?_
    refine AW.topR (show RC 1 9 = 153 by decide +kernel) ?_
    refine aw_aload_n (k' := 0) (by decide +kernel) rfl ?_
    refine gfX11_26 rfl (by decide +kernel) (OB.at (ci := 9) (show shp 1 = (19, 0) by decide +kernel) (by decide)) ?_
    refine AW.topR (show RC 1 2 = 8 by decide +kernel) ?_
    refine aw_iload_n (k' := 1) (by decide +kernel) rfl ?_
    refine aw_aload_n (k' := 0) (by decide +kernel) rfl ?_
    refine aw_iload_n (k' := 1) (by decide +kernel) rfl ?_
    refine aw_callV (y := yX11_worstPlace) (M2 := mX11_worstPlace) (as := [vI x1]) (S := [vI x1, vR 8, vR 153]) (t := 1) (d2 := d) (b2 := 0) (b3 := b - 1) cwX11_worstPlace mlX11_184 imX11_worstPlace seX11_worstPlace (by decide +kernel) rfl (ci := 9) rfl (OB.at (ci := 9) (show shp 1 = (19, 0) by decide +kernel) (by decide)) (Nat.le_refl _) (Nat.le_of_eq (Nat.zero_add _)) rfl rfl (by simp [oneSlot]) (Nat.le_of_ble_eq_true rfl) (Ct.mono hG ?_)
    rintro o h' (⟨v1, g2, rfl, rfl, hG⟩ | ⟨E, g, rfl, rfl, hG⟩)
    · show AW Γ l mX11_rests (d + 1) (b - 1) 19 [vR 1, vI x1, vU, vU, vU, vU, vU, vU, vU] [vI v1, vI x1, vR 8, vR 153] (stt g2) K
      refine aw_callV (y := yX7_weight) (M2 := mX7_weight) (as := [vR 8, vI x1, vI v1]) (S := []) (t := 153) (d2 := d) (b2 := 0) (b3 := b - 1) cwX7_weight mlX11_191 imX7_weight seX7_weight (by decide +kernel) rfl (ci := 6) rfl (OB.at (ci := 6) (show shp 153 = (16, 0) by decide +kernel) (by decide)) (Nat.le_refl _) (Nat.le_of_eq (Nat.zero_add _)) rfl rfl (by simp [oneSlot]) (Nat.le_of_ble_eq_true rfl) (Ct.mono hG ?_)
      rintro o h' (⟨v2, g3, rfl, rfl, hG⟩ | ⟨E, g, rfl, rfl, hG⟩)
      · show AW Γ l mX11_rests (d + 1) (b - 1) 22 [vR 1, vI x1, vU, vU, vU, vU, vU, vU, vU] [vI v2] (stt g3) K
        refine aw_istore_n (k' := 2) (by decide +kernel) (by decide) ?_
        show AW Γ l mX11_rests (d + 1) (b - 1) 23 [vR 1, vI x1, vI v2, vU, vU, vU, vU, vU, vU] [] (stt g3) K
        refine aw_aload_n (k' := 0) (by decide +kernel) rfl ?_
        refine gfX11_58 rfl (by decide +kernel) (OB.at (ci := 9) (show shp 1 = (19, 0) by decide +kernel) (by decide)) ?_
        refine AW.topR (show RC 1 9 = 153 by decide +kernel) ?_
        refine aw_aload_n (k' := 0) (by decide +kernel) rfl ?_
        refine gfX11_26 rfl (by decide +kernel) (OB.at (ci := 9) (show shp 1 = (19, 0) by decide +kernel) (by decide)) ?_
        refine AW.topR (show RC 1 2 = 8 by decide +kernel) ?_
        refine aw_iload_n (k' := 1) (by decide +kernel) rfl ?_
        refine aw_aload_n (k' := 0) (by decide +kernel) rfl ?_
        refine gfX11_26 rfl (by decide +kernel) (OB.at (ci := 9) (show shp 1 = (19, 0) by decide +kernel) (by decide)) ?_
        refine AW.topR (show RC 1 2 = 8 by decide +kernel) ?_
        refine gfX11_165 rfl (by decide +kernel) (OB.at (ci := 2) (show shp 8 = (12, 0) by decide +kernel) (by decide)) ?_
        refine AW.topR (show RC 8 1 = 10 by decide +kernel) ?_
        refine aw_iload_n (k' := 1) (by decide +kernel) rfl ?_
        refine aw_callS (y := yX11_cell) (M2 := mX11_cell) (as := [vR 10, vI x1]) (S := [vI x1, vR 8, vR 153]) (d2 := d) (b2 := 0) (b3 := b - 1) cwX11_cell mlX11_168 stX11_cell (by decide +kernel) rfl (Nat.le_refl _) (Nat.le_of_eq (Nat.zero_add _)) rfl rfl (by simp [oneSlot]) (Nat.le_of_ble_eq_true rfl) (c_cell (show (shp 10).1 = 0 by decide +kernel) ?_)
        show AW Γ l mX11_rests (d + 1) (b - 1) 43 [vR 1, vI x1, vI v2, vU, vU, vU, vU, vU, vU] [vI (cel g3 10 x1), vI x1, vR 8, vR 153] (stt g3) K
        refine aw_callV (y := yX7_weight) (M2 := mX7_weight) (as := [vR 8, vI x1, vI (cel g3 10 x1)]) (S := []) (t := 153) (d2 := d) (b2 := 0) (b3 := b - 1) cwX7_weight mlX11_191 imX7_weight seX7_weight (by decide +kernel) rfl (ci := 6) rfl (OB.at (ci := 6) (show shp 153 = (16, 0) by decide +kernel) (by decide)) (Nat.le_refl _) (Nat.le_of_eq (Nat.zero_add _)) rfl rfl (by simp [oneSlot]) (Nat.le_of_ble_eq_true rfl) (Ct.mono hG ?_)
        rintro o h' (⟨v3, g4, rfl, rfl, hG⟩ | ⟨E, g, rfl, rfl, hG⟩)
        · show AW Γ l mX11_rests (d + 1) (b - 1) 46 [vR 1, vI x1, vI v2, vU, vU, vU, vU, vU, vU] [vI v3] (stt g4) K
          refine aw_istore_n (k' := 3) (by decide +kernel) (by decide) ?_
          show AW Γ l mX11_rests (d + 1) (b - 1) 47 [vR 1, vI x1, vI v2, vI v3, vU, vU, vU, vU, vU] [] (stt g4) K
          refine aw_aload_n (k' := 0) (by decide +kernel) rfl ?_
          refine gfX11_26 rfl (by decide +kernel) (OB.at (ci := 9) (show shp 1 = (19, 0) by decide +kernel) (by decide)) ?_
          refine AW.topR (show RC 1 2 = 8 by decide +kernel) ?_
          refine gfX11_175 rfl (by decide +kernel) (OB.at (ci := 2) (show shp 8 = (12, 0) by decide +kernel) (by decide)) ?_
          refine AW.topR (show RC 8 3 = 12 by decide +kernel) ?_
          refine aw_iload_n (k' := 1) (by decide +kernel) rfl ?_
          refine aw_callS (y := yX11_cell) (M2 := mX11_cell) (as := [vR 12, vI x1]) (S := []) (d2 := d) (b2 := 0) (b3 := b - 1) cwX11_cell mlX11_168 stX11_cell (by decide +kernel) rfl (Nat.le_refl _) (Nat.le_of_eq (Nat.zero_add _)) rfl rfl (by simp [oneSlot]) (Nat.le_of_ble_eq_true rfl) (c_cell (show (shp 12).1 = 0 by decide +kernel) ?_)
          show AW Γ l mX11_rests (d + 1) (b - 1) 58 [vR 1, vI x1, vI v2, vI v3, vU, vU, vU, vU, vU] [vI (cel g4 12 x1)] (stt g4) K
          refine aw_ineg (by decide +kernel) ?_
          refine aw_istore (i := 4) (by decide +kernel) (by decide) ?_
          show AW Γ l mX11_rests (d + 1) (b - 1) 61 [vR 1, vI x1, vI v2, vI v3, vI (-(cel g4 12 x1)), vU, vU, vU, vU] [] (stt g4) K
          refine aw_iconst (n := 0) (by decide +kernel) ?_
          refine aw_istore (i := 5) (by decide +kernel) (by decide) ?_
          show AW Γ l mX11_rests (d + 1) (b - 1) 64 [vR 1, vI x1, vI v2, vI v3, vI (-(cel g4 12 x1)), vI 0, vU, vU, vU] [] (stt g4) K
          refine aw_iconst (n := 0) (by decide +kernel) ?_
          refine aw_istore (i := 6) (by decide +kernel) (by decide) ?_
          show AW Γ l mX11_rests (d + 1) (b - 1) 67 [vR 1, vI x1, vI v2, vI v3, vI (-(cel g4 12 x1)), vI 0, vI 0, vU, vU] [] (stt g4) K
          exact hG
        · exact hG
      · exact hG
    · exact hG
  · exact hG
set_option maxHeartbeats 1000000 in
theorem wpX11_rests_67 {Γ : Cfg} {l : Launch} {d b : Nat} {g : GG} {K : Ou → HP → Prop} {x1 : Int} {y2 : Int} {y3 : Int} {y4 : Int} {y5 : Int} {y6 : Int} (hb : 1 ≤ b) (hF : (4 ≤ wr y6 → K (.inl (vI y5)) (stt g)) ∧ (¬ (4 ≤ wr y6) → Ct Γ l d 0 yX11_oneOf mX11_oneOf [vI y6, vI y2, vI y3, vI 2, vI 1] (stt g) (bI (fun v1 g1 => Ct Γ l d 0 yX11_oneOf mX11_oneOf [vI (iXor y6 2), vI y2, vI y3, vI 2, vI 1] (stt g1) (bI (fun v2 g2 => (wr v1 < wr v2 → Ct Γ l d 0 yX11_oneOf mX11_oneOf [vI y6, vI 3, vI 0, vI y4, vI 1] (stt g2) (bI (fun v3 g3 => Ct Γ l d 0 yX11_oneOf mX11_oneOf [vI (iXor y6 1), vI 3, vI 0, vI y4, vI 1] (stt g3) (bI (fun v4 g4 => (wr v3 < wr v4 → AW Γ l mX11_rests (d + 1) b 67 [vR 1, vI x1, vI y2, vI y3, vI y4, vI y5, vI (y6 + 1), vI 0, vI 0] [] (stt g4) K) ∧ (¬ (wr v3 < wr v4) → AW Γ l mX11_rests (d + 1) b 67 [vR 1, vI x1, vI y2, vI y3, vI y4, vI y5, vI (y6 + 1), vI 0, vI 1] [] (stt g4) K)) K)) K)) ∧ (¬ (wr v1 < wr v2) → Ct Γ l d 0 yX11_oneOf mX11_oneOf [vI y6, vI 3, vI 0, vI y4, vI 1] (stt g2) (bI (fun v5 g5 => Ct Γ l d 0 yX11_oneOf mX11_oneOf [vI (iXor y6 1), vI 3, vI 0, vI y4, vI 1] (stt g5) (bI (fun v6 g6 => (wr v5 < wr v6 → AW Γ l mX11_rests (d + 1) b 67 [vR 1, vI x1, vI y2, vI y3, vI y4, vI y5, vI (y6 + 1), vI 1, vI 0] [] (stt g6) K) ∧ (¬ (wr v5 < wr v6) → AW Γ l mX11_rests (d + 1) b 67 [vR 1, vI x1, vI y2, vI y3, vI y4, vI (iOr y5 (iShl 1 y6)), vI (y6 + 1), vI 1, vI 1] [] (stt g6) K)) K)) K))) K)) K))) : AW Γ l mX11_rests (d + 1) b 67 [vR 1, vI x1, vI y2, vI y3, vI y4, vI y5, vI y6, vU, vU] [] (stt g) K := by
  refine aw_iload (i := 6) (by decide +kernel) rfl ?_
  refine aw_iconst (n := 4) (by decide +kernel) ?_
  refine ax_icmp_ge (off := 90) (tgt := 160) (x' := wr y6) (y' := 4) (by decide +kernel) (by decide) rfl (by decide +kernel) (fun hc => ?_) (fun hc => ?_)
  · have hF := hF.1 hc
    refine aw_iload (i := 5) (by decide +kernel) rfl ?_
    exact aw_iret (by decide +kernel) rfl hF
  · have hF := hF.2 hc
    refine aw_iload (i := 6) (by decide +kernel) rfl ?_
    refine aw_iload_n (k' := 2) (by decide +kernel) rfl ?_
    refine aw_iload_n (k' := 3) (by decide +kernel) rfl ?_
    refine aw_iconst (n := 2) (by decide +kernel) ?_
    refine aw_iconst (n := 1) (by decide +kernel) ?_
    refine aw_callS (y := yX11_oneOf) (M2 := mX11_oneOf) (as := [vI y6, vI y2, vI y3, vI 2, vI 1]) (S := []) (d2 := d) (b2 := 0) (b3 := b) cwX11_oneOf mlX11_381 stX11_oneOf (by decide +kernel) rfl (Nat.le_refl _) (Nat.le_of_eq (Nat.zero_add _)) rfl rfl (by simp [oneSlot]) (Nat.le_of_ble_eq_true rfl) (Ct.mono hF ?_)
    rintro o h' (⟨v1, g1, rfl, rfl, hG⟩ | ⟨E, g, rfl, rfl, hG⟩)
    · show AW Γ l mX11_rests (d + 1) b 82 [vR 1, vI x1, vI y2, vI y3, vI y4, vI y5, vI y6, vU, vU] [vI v1] (stt g1) K
      refine aw_iload (i := 6) (by decide +kernel) rfl ?_
      refine aw_iconst (n := 2) (by decide +kernel) ?_
      refine aw_ixor (by decide +kernel) ?_
      refine aw_iload_n (k' := 2) (by decide +kernel) rfl ?_
      refine aw_iload_n (k' := 3) (by decide +kernel) rfl ?_
      refine aw_iconst (n := 2) (by decide +kernel) ?_
      refine aw_iconst (n := 1) (by decide +kernel) ?_
      refine aw_callS (y := yX11_oneOf) (M2 := mX11_oneOf) (as := [vI (iXor y6 2), vI y2, vI y3, vI 2, vI 1]) (S := [vI v1]) (d2 := d) (b2 := 0) (b3 := b) cwX11_oneOf mlX11_381 stX11_oneOf (by decide +kernel) rfl (Nat.le_refl _) (Nat.le_of_eq (Nat.zero_add _)) rfl rfl (by simp [oneSlot]) (Nat.le_of_ble_eq_true rfl) (Ct.mono hG ?_)
      rintro o h' (⟨v2, g2, rfl, rfl, hG⟩ | ⟨E, g, rfl, rfl, hG⟩)
      · show AW Γ l mX11_rests (d + 1) b 93 [vR 1, vI x1, vI y2, vI y3, vI y4, vI y5, vI y6, vU, vU] [vI v2, vI v1] (stt g2) K
        refine ax_icmp_lt (off := 7) (tgt := 100) (x' := wr v1) (y' := wr v2) (by decide +kernel) (by decide) rfl rfl (fun hc => ?_) (fun hc => ?_)
        · have hG := hG.1 hc
          refine aw_iconst (n := 0) (by decide +kernel) ?_
          refine aw_istore (i := 7) (by decide +kernel) (by decide) ?_
          show AW Γ l mX11_rests (d + 1) b 103 [vR 1, vI x1, vI y2, vI y3, vI y4, vI y5, vI y6, vI 0, vU] [] (stt g2) K
          refine aw_iload (i := 6) (by decide +kernel) rfl ?_
          refine aw_iconst (n := 3) (by decide +kernel) ?_
          refine aw_iconst (n := 0) (by decide +kernel) ?_
          refine aw_iload (i := 4) (by decide +kernel) rfl ?_
          refine aw_iconst (n := 1) (by decide +kernel) ?_
          refine aw_callS (y := yX11_oneOf) (M2 := mX11_oneOf) (as := [vI y6, vI 3, vI 0, vI y4, vI 1]) (S := []) (d2 := d) (b2 := 0) (b3 := b) cwX11_oneOf mlX11_381 stX11_oneOf (by decide +kernel) rfl (Nat.le_refl _) (Nat.le_of_eq (Nat.zero_add _)) rfl rfl (by simp [oneSlot]) (Nat.le_of_ble_eq_true rfl) (Ct.mono hG ?_)
          rintro o h' (⟨v3, g3, rfl, rfl, hG⟩ | ⟨E, g, rfl, rfl, hG⟩)
          · show AW Γ l mX11_rests (d + 1) b 113 [vR 1, vI x1, vI y2, vI y3, vI y4, vI y5, vI y6, vI 0, vU] [vI v3] (stt g3) K
            refine aw_iload (i := 6) (by decide +kernel) rfl ?_
            refine aw_iconst (n := 1) (by decide +kernel) ?_
            refine aw_ixor (by decide +kernel) ?_
            refine aw_iconst (n := 3) (by decide +kernel) ?_
            refine aw_iconst (n := 0) (by decide +kernel) ?_
            refine aw_iload (i := 4) (by decide +kernel) rfl ?_
            refine aw_iconst (n := 1) (by decide +kernel) ?_
            refine aw_callS (y := yX11_oneOf) (M2 := mX11_oneOf) (as := [vI (iXor y6 1), vI 3, vI 0, vI y4, vI 1]) (S := [vI v3]) (d2 := d) (b2 := 0) (b3 := b) cwX11_oneOf mlX11_381 stX11_oneOf (by decide +kernel) rfl (Nat.le_refl _) (Nat.le_of_eq (Nat.zero_add _)) rfl rfl (by simp [oneSlot]) (Nat.le_of_ble_eq_true rfl) (Ct.mono hG ?_)
            rintro o h' (⟨v4, g4, rfl, rfl, hG⟩ | ⟨E, g, rfl, rfl, hG⟩)
            · show AW Γ l mX11_rests (d + 1) b 125 [vR 1, vI x1, vI y2, vI y3, vI y4, vI y5, vI y6, vI 0, vU] [vI v4, vI v3] (stt g4) K
              refine ax_icmp_lt (off := 7) (tgt := 132) (x' := wr v3) (y' := wr v4) (by decide +kernel) (by decide) rfl rfl (fun hc => ?_) (fun hc => ?_)
              · have hG := hG.1 hc
                refine aw_iconst (n := 0) (by decide +kernel) ?_
                refine aw_istore (i := 8) (by decide +kernel) (by decide) ?_
                show AW Γ l mX11_rests (d + 1) b 135 [vR 1, vI x1, vI y2, vI y3, vI y4, vI y5, vI y6, vI 0, vI 0] [] (stt g4) K
                refine aw_iload (i := 7) (by decide +kernel) rfl ?_
                refine ax_if_eq (off := 17) (tgt := 154) (x' := 0) (by decide +kernel) (by decide) (by decide +kernel) (fun hc => ?_) (fun hc => absurd (by decide) hc)
                refine aw_iinc (i := 6) (n := 1) (by decide +kernel) rfl (by decide) ?_
                show AW Γ l mX11_rests (d + 1) b 157 [vR 1, vI x1, vI y2, vI y3, vI y4, vI y5, vI (y6 + 1), vI 0, vI 0] [] (stt g4) K
                refine aw_goto (off := -90) (tgt := 67) (by decide +kernel) (by decide) ?_
                exact hG
              · have hG := hG.2 hc
                refine aw_iconst (n := 1) (by decide +kernel) ?_
                refine aw_goto (off := 4) (tgt := 133) (by decide +kernel) (by decide) ?_
                refine aw_istore (i := 8) (by decide +kernel) (by decide) ?_
                show AW Γ l mX11_rests (d + 1) b 135 [vR 1, vI x1, vI y2, vI y3, vI y4, vI y5, vI y6, vI 0, vI 1] [] (stt g4) K
                refine aw_iload (i := 7) (by decide +kernel) rfl ?_
                refine ax_if_eq (off := 17) (tgt := 154) (x' := 0) (by decide +kernel) (by decide) (by decide +kernel) (fun hc => ?_) (fun hc => absurd (by decide) hc)
                refine aw_iinc (i := 6) (n := 1) (by decide +kernel) rfl (by decide) ?_
                show AW Γ l mX11_rests (d + 1) b 157 [vR 1, vI x1, vI y2, vI y3, vI y4, vI y5, vI (y6 + 1), vI 0, vI 1] [] (stt g4) K
                refine aw_goto (off := -90) (tgt := 67) (by decide +kernel) (by decide) ?_
                exact hG
            · exact hG
          · exact hG
        · have hG := hG.2 hc
          refine aw_iconst (n := 1) (by decide +kernel) ?_
          refine aw_goto (off := 4) (tgt := 101) (by decide +kernel) (by decide) ?_
          refine aw_istore (i := 7) (by decide +kernel) (by decide) ?_
          show AW Γ l mX11_rests (d + 1) b 103 [vR 1, vI x1, vI y2, vI y3, vI y4, vI y5, vI y6, vI 1, vU] [] (stt g2) K
          refine aw_iload (i := 6) (by decide +kernel) rfl ?_
          refine aw_iconst (n := 3) (by decide +kernel) ?_
          refine aw_iconst (n := 0) (by decide +kernel) ?_
          refine aw_iload (i := 4) (by decide +kernel) rfl ?_
          refine aw_iconst (n := 1) (by decide +kernel) ?_
          refine aw_callS (y := yX11_oneOf) (M2 := mX11_oneOf) (as := [vI y6, vI 3, vI 0, vI y4, vI 1]) (S := []) (d2 := d) (b2 := 0) (b3 := b) cwX11_oneOf mlX11_381 stX11_oneOf (by decide +kernel) rfl (Nat.le_refl _) (Nat.le_of_eq (Nat.zero_add _)) rfl rfl (by simp [oneSlot]) (Nat.le_of_ble_eq_true rfl) (Ct.mono hG ?_)
          rintro o h' (⟨v5, g5, rfl, rfl, hG⟩ | ⟨E, g, rfl, rfl, hG⟩)
          · show AW Γ l mX11_rests (d + 1) b 113 [vR 1, vI x1, vI y2, vI y3, vI y4, vI y5, vI y6, vI 1, vU] [vI v5] (stt g5) K
            refine aw_iload (i := 6) (by decide +kernel) rfl ?_
            refine aw_iconst (n := 1) (by decide +kernel) ?_
            refine aw_ixor (by decide +kernel) ?_
            refine aw_iconst (n := 3) (by decide +kernel) ?_
            refine aw_iconst (n := 0) (by decide +kernel) ?_
            refine aw_iload (i := 4) (by decide +kernel) rfl ?_
            refine aw_iconst (n := 1) (by decide +kernel) ?_
            refine aw_callS (y := yX11_oneOf) (M2 := mX11_oneOf) (as := [vI (iXor y6 1), vI 3, vI 0, vI y4, vI 1]) (S := [vI v5]) (d2 := d) (b2 := 0) (b3 := b) cwX11_oneOf mlX11_381 stX11_oneOf (by decide +kernel) rfl (Nat.le_refl _) (Nat.le_of_eq (Nat.zero_add _)) rfl rfl (by simp [oneSlot]) (Nat.le_of_ble_eq_true rfl) (Ct.mono hG ?_)
            rintro o h' (⟨v6, g6, rfl, rfl, hG⟩ | ⟨E, g, rfl, rfl, hG⟩)
            · show AW Γ l mX11_rests (d + 1) b 125 [vR 1, vI x1, vI y2, vI y3, vI y4, vI y5, vI y6, vI 1, vU] [vI v6, vI v5] (stt g6) K
              refine ax_icmp_lt (off := 7) (tgt := 132) (x' := wr v5) (y' := wr v6) (by decide +kernel) (by decide) rfl rfl (fun hc => ?_) (fun hc => ?_)
              · have hG := hG.1 hc
                refine aw_iconst (n := 0) (by decide +kernel) ?_
                refine aw_istore (i := 8) (by decide +kernel) (by decide) ?_
                show AW Γ l mX11_rests (d + 1) b 135 [vR 1, vI x1, vI y2, vI y3, vI y4, vI y5, vI y6, vI 1, vI 0] [] (stt g6) K
                refine aw_iload (i := 7) (by decide +kernel) rfl ?_
                refine ax_if_eq (off := 17) (tgt := 154) (x' := 1) (by decide +kernel) (by decide) (by decide +kernel) (fun hc => absurd hc (by decide)) (fun hc => ?_)
                refine aw_iload (i := 8) (by decide +kernel) rfl ?_
                refine ax_if_eq (off := 12) (tgt := 154) (x' := 0) (by decide +kernel) (by decide) (by decide +kernel) (fun hc => ?_) (fun hc => absurd (by decide) hc)
                refine aw_iinc (i := 6) (n := 1) (by decide +kernel) rfl (by decide) ?_
                show AW Γ l mX11_rests (d + 1) b 157 [vR 1, vI x1, vI y2, vI y3, vI y4, vI y5, vI (y6 + 1), vI 1, vI 0] [] (stt g6) K
                refine aw_goto (off := -90) (tgt := 67) (by decide +kernel) (by decide) ?_
                exact hG
              · have hG := hG.2 hc
                refine aw_iconst (n := 1) (by decide +kernel) ?_
                refine aw_goto (off := 4) (tgt := 133) (by decide +kernel) (by decide) ?_
                refine aw_istore (i := 8) (by decide +kernel) (by decide) ?_
                show AW Γ l mX11_rests (d + 1) b 135 [vR 1, vI x1, vI y2, vI y3, vI y4, vI y5, vI y6, vI 1, vI 1] [] (stt g6) K
                refine aw_iload (i := 7) (by decide +kernel) rfl ?_
                refine ax_if_eq (off := 17) (tgt := 154) (x' := 1) (by decide +kernel) (by decide) (by decide +kernel) (fun hc => absurd hc (by decide)) (fun hc => ?_)
                refine aw_iload (i := 8) (by decide +kernel) rfl ?_
                refine ax_if_eq (off := 12) (tgt := 154) (x' := 1) (by decide +kernel) (by decide) (by decide +kernel) (fun hc => absurd hc (by decide)) (fun hc => ?_)
                refine aw_iload (i := 5) (by decide +kernel) rfl ?_
                refine aw_iconst (n := 1) (by decide +kernel) ?_
                refine aw_iload (i := 6) (by decide +kernel) rfl ?_
                refine aw_ishl (by decide +kernel) ?_
                refine aw_ior (by decide +kernel) ?_
                refine aw_istore (i := 5) (by decide +kernel) (by decide) ?_
                show AW Γ l mX11_rests (d + 1) b 154 [vR 1, vI x1, vI y2, vI y3, vI y4, vI (iOr y5 (iShl 1 y6)), vI y6, vI 1, vI 1] [] (stt g6) K
                refine aw_iinc (i := 6) (n := 1) (by decide +kernel) rfl (by decide) ?_
                show AW Γ l mX11_rests (d + 1) b 157 [vR 1, vI x1, vI y2, vI y3, vI y4, vI (iOr y5 (iShl 1 y6)), vI (y6 + 1), vI 1, vI 1] [] (stt g6) K
                refine aw_goto (off := -90) (tgt := 67) (by decide +kernel) (by decide) ?_
                exact hG
            · exact hG
          · exact hG
      · exact hG
    · exact hG

set_option maxHeartbeats 1000000 in
theorem wpX11_oneOf {Γ : Cfg} {l : Launch} {d b : Nat} {g : GG} {K : Ou → HP → Prop} {x0 : Int} {x1 : Int} {x2 : Int} {x3 : Int} {x4 : Int} (hF : (wr x0 = 0 → K (.inl (vI x1)) (stt g)) ∧ (wr x0 = 1 → K (.inl (vI x2)) (stt g)) ∧ (wr x0 = 2 → K (.inl (vI x3)) (stt g)) ∧ ((wr x0 < 0 ∨ 2 < wr x0) → K (.inl (vI x4)) (stt g))) : Ct Γ l d b yX11_oneOf mX11_oneOf [vI x0, vI x1, vI x2, vI x3, vI x4] (stt g) K := by
  refine Ct.enter (L := [vI x0, vI x1, vI x2, vI x3, vI x4]) rfl rfl rfl (by decide +kernel) (by simp [oneSlot]) (Nat.le_of_ble_eq_true rfl) rfl ?_
  refine aw_iload_n (k' := 0) (by decide +kernel) rfl ?_
  refine ax_tsw (dflt := 33) (lo := 0) (hi := 2) (offs := #[27, 29, 31]) (len := 27) [28, 30, 32] 34 (by decide +kernel) (by decide) (by decide) (by decide) (by decide) (fun i hi hc => ?_) (fun hc => ?_)
  · match i, hi, hc with
    | 0, _, hc =>
      have hF := hF.1 (by simpa using hc)
      show AW Γ l mX11_oneOf d b 28 [vI x0, vI x1, vI x2, vI x3, vI x4] [] (stt g) K
      refine aw_iload_n (k' := 1) (by decide +kernel) rfl ?_
      exact aw_iret (by decide +kernel) rfl hF
    | 1, _, hc =>
      have hF := hF.2.1 (by simpa using hc)
      show AW Γ l mX11_oneOf d b 30 [vI x0, vI x1, vI x2, vI x3, vI x4] [] (stt g) K
      refine aw_iload_n (k' := 2) (by decide +kernel) rfl ?_
      exact aw_iret (by decide +kernel) rfl hF
    | 2, _, hc =>
      have hF := hF.2.2.1 (by simpa using hc)
      show AW Γ l mX11_oneOf d b 32 [vI x0, vI x1, vI x2, vI x3, vI x4] [] (stt g) K
      refine aw_iload_n (k' := 3) (by decide +kernel) rfl ?_
      exact aw_iret (by decide +kernel) rfl hF
    | i + 3, hi, _ => exact absurd hi (by simp)
  · have hF := hF.2.2.2 hc
    refine aw_iload (i := 4) (by decide +kernel) rfl ?_
    exact aw_iret (by decide +kernel) rfl hF

set_option maxHeartbeats 1000000 in
theorem wpX11_odds {Γ : Cfg} {l : Launch} {d b : Nat} {g : GG} {K : Ou → HP → Prop} {x1 : Int} (hb : 1 ≤ b) (hF : Ct Γ l d 1 yX11_needNumber mX11_needNumber [vI x1, vI 0, vI 4] (stt g) (bV (fun g1 => AW Γ l mX11_odds (d + 1) (b - 1) 12 [vR 1, vI x1, vI 10000, vI 0, vU] [] (stt g1) K) K)) : Ct Γ l (d + 1) b yX11_odds mX11_odds [vR 1, vI x1] (stt g) K := by
  refine Ct.enter (L := [vR 1, vI x1, vU, vU, vU]) rfl rfl rfl (by decide +kernel) (by simp [oneSlot]) (Nat.le_of_ble_eq_true rfl) rfl ?_
  refine aw_iload_n (k' := 1) (by decide +kernel) rfl ?_
  refine aw_iconst (n := 0) (by decide +kernel) ?_
  refine aw_iconst (n := 4) (by decide +kernel) ?_
  refine aw_callS (y := yX11_needNumber) (M2 := mX11_needNumber) (as := [vI x1, vI 0, vI 4]) (S := []) (d2 := d) (b2 := 1) (b3 := b - 1) cwX11_needNumber mlX11_262 stX11_needNumber (by decide +kernel) rfl (Nat.le_refl _) (by omega) rfl rfl (by simp [oneSlot]) (Nat.le_of_ble_eq_true rfl) (Ct.mono hF ?_)
  rintro o h' (⟨g1, rfl, rfl, hG⟩ | ⟨E, g, rfl, rfl, hG⟩)
  · show AW Γ l mX11_odds (d + 1) (b - 1) 6 [vR 1, vI x1, vU, vU, vU] [] (stt g1) K
    refine aw_sipush (n := 10000) (by decide +kernel) (by decide +kernel) ?_
    refine aw_istore_n (k' := 2) (by decide +kernel) (by decide) ?_
    show AW Γ l mX11_odds (d + 1) (b - 1) 10 [vR 1, vI x1, vI 10000, vU, vU] [] (stt g1) K
    refine aw_iconst (n := 0) (by decide +kernel) ?_
    refine aw_istore_n (k' := 3) (by decide +kernel) (by decide) ?_
    show AW Γ l mX11_odds (d + 1) (b - 1) 12 [vR 1, vI x1, vI 10000, vI 0, vU] [] (stt g1) K
    exact hG
  · exact hG
set_option maxHeartbeats 1000000 in
theorem wpX11_odds_12 {Γ : Cfg} {l : Launch} {d b : Nat} {g : GG} {K : Ou → HP → Prop} {x1 : Int} {y2 : Int} {y3 : Int} (hb : 1 ≤ b) (hF : (wr x1 ≤ wr y3 → K (.inl (vI y2)) (stt g)) ∧ (¬ (wr x1 ≤ wr y3) → AW Γ l mX11_odds (d + 1) b 20 [vR 1, vI x1, vI y2, vI y3, vI 0] [] (stt g) K)) : AW Γ l mX11_odds (d + 1) b 12 [vR 1, vI x1, vI y2, vI y3, vU] [] (stt g) K := by
  refine aw_iload_n (k' := 3) (by decide +kernel) rfl ?_
  refine aw_iload_n (k' := 1) (by decide +kernel) rfl ?_
  refine ax_icmp_ge (off := 67) (tgt := 81) (x' := wr y3) (y' := wr x1) (by decide +kernel) (by decide) rfl rfl (fun hc => ?_) (fun hc => ?_)
  · have hF := hF.1 hc
    refine aw_iload_n (k' := 2) (by decide +kernel) rfl ?_
    exact aw_iret (by decide +kernel) rfl hF
  · have hF := hF.2 hc
    refine aw_iconst (n := 0) (by decide +kernel) ?_
    refine aw_istore (i := 4) (by decide +kernel) (by decide) ?_
    show AW Γ l mX11_odds (d + 1) b 20 [vR 1, vI x1, vI y2, vI y3, vI 0] [] (stt g) K
    exact hF
set_option maxHeartbeats 1000000 in
theorem wpX11_odds_20 {Γ : Cfg} {l : Launch} {d b : Nat} {g : GG} {K : Ou → HP → Prop} {x1 : Int} {y2 : Int} {y3 : Int} {y4 : Int} (hb : 1 ≤ b) (hF : (wr (g 8 8) ≤ wr y4 → AW Γ l mX11_odds (d + 1) b 12 [vR 1, vI x1, vI y2, vI (y3 + 1), vI y4] [] (stt g) K) ∧ (¬ (wr (g 8 8) ≤ wr y4) → (¬ wr (cel g 13 y4) = 1 → AW Γ l mX11_odds (d + 1) b 20 [vR 1, vI x1, vI y2, vI y3, vI (y4 + 1)] [] (stt g) K) ∧ (¬ (¬ wr (cel g 13 y4) = 1) → Ct Γ l d 0 yX2_oddsBehind mX2_oddsBehind [vR 8, vI y2, vI (cel g 12 y4)] (stt g) (bI (fun v1 g1 => AW Γ l mX11_odds (d + 1) b 20 [vR 1, vI x1, vI v1, vI y3, vI (y4 + 1)] [] (stt g1) K) K)))) : AW Γ l mX11_odds (d + 1) b 20 [vR 1, vI x1, vI y2, vI y3, vI y4] [] (stt g) K := by
  refine aw_iload (i := 4) (by decide +kernel) rfl ?_
  refine aw_aload_n (k' := 0) (by decide +kernel) rfl ?_
  refine gfX11_26 rfl (by decide +kernel) (OB.at (ci := 9) (show shp 1 = (19, 0) by decide +kernel) (by decide)) ?_
  refine AW.topR (show RC 1 2 = 8 by decide +kernel) ?_
  refine gfX11_253 rfl (by decide +kernel) (OB.at (ci := 2) (show shp 8 = (12, 0) by decide +kernel) (by decide)) ?_
  refine ax_icmp_ge (off := 46) (tgt := 75) (x' := wr y4) (y' := wr (g 8 8)) (by decide +kernel) (by decide) rfl rfl (fun hc => ?_) (fun hc => ?_)
  · have hF := hF.1 hc
    refine aw_iinc (i := 3) (n := 1) (by decide +kernel) rfl (by decide) ?_
    show AW Γ l mX11_odds (d + 1) b 78 [vR 1, vI x1, vI y2, vI (y3 + 1), vI y4] [] (stt g) K
    refine aw_goto (off := -66) (tgt := 12) (by decide +kernel) (by decide) ?_
    exact hF
  · have hF := hF.2 hc
    refine aw_aload_n (k' := 0) (by decide +kernel) rfl ?_
    refine gfX11_26 rfl (by decide +kernel) (OB.at (ci := 9) (show shp 1 = (19, 0) by decide +kernel) (by decide)) ?_
    refine AW.topR (show RC 1 2 = 8 by decide +kernel) ?_
    refine gfX11_178 rfl (by decide +kernel) (OB.at (ci := 2) (show shp 8 = (12, 0) by decide +kernel) (by decide)) ?_
    refine AW.topR (show RC 8 4 = 13 by decide +kernel) ?_
    refine aw_iload (i := 4) (by decide +kernel) rfl ?_
    refine aw_callS (y := yX11_cell) (M2 := mX11_cell) (as := [vR 13, vI y4]) (S := []) (d2 := d) (b2 := 0) (b3 := b) cwX11_cell mlX11_168 stX11_cell (by decide +kernel) rfl (Nat.le_refl _) (Nat.le_of_eq (Nat.zero_add _)) rfl rfl (by simp [oneSlot]) (Nat.le_of_ble_eq_true rfl) (c_cell (show (shp 13).1 = 0 by decide +kernel) ?_)
    show AW Γ l mX11_odds (d + 1) b 44 [vR 1, vI x1, vI y2, vI y3, vI y4] [vI (cel g 13 y4)] (stt g) K
    refine aw_iconst (n := 1) (by decide +kernel) ?_
    refine ax_icmp_ne (off := 24) (tgt := 69) (x' := wr (cel g 13 y4)) (y' := 1) (by decide +kernel) (by decide) rfl (by decide +kernel) (fun hc => ?_) (fun hc => ?_)
    · have hF := hF.1 hc
      refine aw_iinc (i := 4) (n := 1) (by decide +kernel) rfl (by decide) ?_
      show AW Γ l mX11_odds (d + 1) b 72 [vR 1, vI x1, vI y2, vI y3, vI (y4 + 1)] [] (stt g) K
      refine aw_goto (off := -52) (tgt := 20) (by decide +kernel) (by decide) ?_
      exact hF
    · have hF := hF.2 hc
      refine aw_aload_n (k' := 0) (by decide +kernel) rfl ?_
      refine gfX11_26 rfl (by decide +kernel) (OB.at (ci := 9) (show shp 1 = (19, 0) by decide +kernel) (by decide)) ?_
      refine AW.topR (show RC 1 2 = 8 by decide +kernel) ?_
      refine aw_iload_n (k' := 2) (by decide +kernel) rfl ?_
      refine aw_aload_n (k' := 0) (by decide +kernel) rfl ?_
      refine gfX11_26 rfl (by decide +kernel) (OB.at (ci := 9) (show shp 1 = (19, 0) by decide +kernel) (by decide)) ?_
      refine AW.topR (show RC 1 2 = 8 by decide +kernel) ?_
      refine gfX11_175 rfl (by decide +kernel) (OB.at (ci := 2) (show shp 8 = (12, 0) by decide +kernel) (by decide)) ?_
      refine AW.topR (show RC 8 3 = 12 by decide +kernel) ?_
      refine aw_iload (i := 4) (by decide +kernel) rfl ?_
      refine aw_callS (y := yX11_cell) (M2 := mX11_cell) (as := [vR 12, vI y4]) (S := [vI y2, vR 8]) (d2 := d) (b2 := 0) (b3 := b) cwX11_cell mlX11_168 stX11_cell (by decide +kernel) rfl (Nat.le_refl _) (Nat.le_of_eq (Nat.zero_add _)) rfl rfl (by simp [oneSlot]) (Nat.le_of_ble_eq_true rfl) (c_cell (show (shp 12).1 = 0 by decide +kernel) ?_)
      show AW Γ l mX11_odds (d + 1) b 65 [vR 1, vI x1, vI y2, vI y3, vI y4] [vI (cel g 12 y4), vI y2, vR 8] (stt g) K
      refine aw_callV (y := yX2_oddsBehind) (M2 := mX2_oddsBehind) (as := [vI y2, vI (cel g 12 y4)]) (S := []) (t := 8) (d2 := d) (b2 := 0) (b3 := b) cwX2_oddsBehind mlX11_320 imX2_oddsBehind seX2_oddsBehind (by decide +kernel) rfl (ci := 2) rfl (OB.at (ci := 2) (show shp 8 = (12, 0) by decide +kernel) (by decide)) (Nat.le_refl _) (Nat.le_of_eq (Nat.zero_add _)) rfl rfl (by simp [oneSlot]) (Nat.le_of_ble_eq_true rfl) (Ct.mono hF ?_)
      rintro o h' (⟨v1, g1, rfl, rfl, hG⟩ | ⟨E, g, rfl, rfl, hG⟩)
      · show AW Γ l mX11_odds (d + 1) b 68 [vR 1, vI x1, vI y2, vI y3, vI y4] [vI v1] (stt g1) K
        refine aw_istore_n (k' := 2) (by decide +kernel) (by decide) ?_
        show AW Γ l mX11_odds (d + 1) b 69 [vR 1, vI x1, vI v1, vI y3, vI y4] [] (stt g1) K
        refine aw_iinc (i := 4) (n := 1) (by decide +kernel) rfl (by decide) ?_
        show AW Γ l mX11_odds (d + 1) b 72 [vR 1, vI x1, vI v1, vI y3, vI (y4 + 1)] [] (stt g1) K
        refine aw_goto (off := -52) (tgt := 20) (by decide +kernel) (by decide) ?_
        exact hG
      · exact hG

set_option maxHeartbeats 1000000 in
theorem wpX11_most {Γ : Cfg} {l : Launch} {d b : Nat} {g : GG} {K : Ou → HP → Prop} {x1 : Int} (hb : 1 ≤ b) (hF : (wr x1 < 0 → K (.inr "java/util/NoSuchElementException") (stt g)) ∧ (¬ (wr x1 < 0) → (wr x1 ≤ 2 → AW Γ l mX11_most (d + 1) b 27 [vR 1, vI x1, vI (-1), vI (-1), vI 0, vU] [] (stt g) K) ∧ (¬ (wr x1 ≤ 2) → K (.inr "java/util/NoSuchElementException") (stt g)))) : Ct Γ l (d + 1) b yX11_most mX11_most [vR 1, vI x1] (stt g) K := by
  refine Ct.enter (L := [vR 1, vI x1, vU, vU, vU, vU]) rfl rfl rfl (by decide +kernel) (by simp [oneSlot]) (Nat.le_of_ble_eq_true rfl) rfl ?_
  refine aw_iload_n (k' := 1) (by decide +kernel) rfl ?_
  refine ax_if_lt (off := 8) (tgt := 9) (x' := wr x1) (by decide +kernel) (by decide) rfl (fun hc => ?_) (fun hc => ?_)
  · have hF := hF.1 hc
    exact thr208W (ix := 385) (i := 13) rfl (by decide) (by decide +kernel) (by decide +kernel) (by decide +kernel) (by decide +kernel) (by decide +kernel) (by decide +kernel) rfl (by omega) rfl (by simp [oneSlot]) (Nat.le_of_ble_eq_true rfl) hF
  · have hF := hF.2 hc
    refine aw_iload_n (k' := 1) (by decide +kernel) rfl ?_
    refine aw_iconst (n := 2) (by decide +kernel) ?_
    refine ax_icmp_le (off := 14) (tgt := 20) (x' := wr x1) (y' := 2) (by decide +kernel) (by decide) rfl (by decide +kernel) (fun hc => ?_) (fun hc => ?_)
    · have hF := hF.1 hc
      refine aw_iconst (n := -1) (by decide +kernel) ?_
      refine aw_istore_n (k' := 2) (by decide +kernel) (by decide) ?_
      show AW Γ l mX11_most (d + 1) b 22 [vR 1, vI x1, vI (-1), vU, vU, vU] [] (stt g) K
      refine aw_iconst (n := -1) (by decide +kernel) ?_
      refine aw_istore_n (k' := 3) (by decide +kernel) (by decide) ?_
      show AW Γ l mX11_most (d + 1) b 24 [vR 1, vI x1, vI (-1), vI (-1), vU, vU] [] (stt g) K
      refine aw_iconst (n := 0) (by decide +kernel) ?_
      refine aw_istore (i := 4) (by decide +kernel) (by decide) ?_
      show AW Γ l mX11_most (d + 1) b 27 [vR 1, vI x1, vI (-1), vI (-1), vI 0, vU] [] (stt g) K
      exact hF
    · have hF := hF.2 hc
      exact thr208W (ix := 385) (i := 13) rfl (by decide) (by decide +kernel) (by decide +kernel) (by decide +kernel) (by decide +kernel) (by decide +kernel) (by decide +kernel) rfl (by omega) rfl (by simp [oneSlot]) (Nat.le_of_ble_eq_true rfl) hF
set_option maxHeartbeats 1000000 in
theorem wpX11_most_27 {Γ : Cfg} {l : Launch} {d b : Nat} {g : GG} {K : Ou → HP → Prop} {x1 : Int} {y2 : Int} {y3 : Int} {y4 : Int} (hb : 1 ≤ b) (hF : (wr (g 8 8) ≤ wr y4 → K (.inl (vI y2)) (stt g)) ∧ (¬ (wr (g 8 8) ≤ wr y4) → (¬ wr x1 = 0 → (¬ wr x1 = 1 → (wr (cel g 12 y4) ≤ wr y3 → AW Γ l mX11_most (d + 1) b 27 [vR 1, vI x1, vI y2, vI y3, vI (y4 + 1), vI (cel g 12 y4)] [] (stt g) K) ∧ (¬ (wr (cel g 12 y4) ≤ wr y3) → AW Γ l mX11_most (d + 1) b 27 [vR 1, vI x1, vI y4, vI (cel g 12 y4), vI (y4 + 1), vI (cel g 12 y4)] [] (stt g) K)) ∧ (¬ (¬ wr x1 = 1) → Ct Γ l d 0 yX11_heldWeight mX11_heldWeight [vR 1, vI y4] (stt g) (bI (fun v1 g1 => (wr v1 ≤ wr y3 → AW Γ l mX11_most (d + 1) b 27 [vR 1, vI x1, vI y2, vI y3, vI (y4 + 1), vI v1] [] (stt g1) K) ∧ (¬ (wr v1 ≤ wr y3) → AW Γ l mX11_most (d + 1) b 27 [vR 1, vI x1, vI y4, vI v1, vI (y4 + 1), vI v1] [] (stt g1) K)) K))) ∧ (¬ (¬ wr x1 = 0) → (wr (cel g 10 y4) ≤ wr y3 → AW Γ l mX11_most (d + 1) b 27 [vR 1, vI x1, vI y2, vI y3, vI (y4 + 1), vI (cel g 10 y4)] [] (stt g) K) ∧ (¬ (wr (cel g 10 y4) ≤ wr y3) → AW Γ l mX11_most (d + 1) b 27 [vR 1, vI x1, vI y4, vI (cel g 10 y4), vI (y4 + 1), vI (cel g 10 y4)] [] (stt g) K)))) : AW Γ l mX11_most (d + 1) b 27 [vR 1, vI x1, vI y2, vI y3, vI y4, vU] [] (stt g) K := by
  refine aw_iload (i := 4) (by decide +kernel) rfl ?_
  refine aw_aload_n (k' := 0) (by decide +kernel) rfl ?_
  refine gfX11_26 rfl (by decide +kernel) (OB.at (ci := 9) (show shp 1 = (19, 0) by decide +kernel) (by decide)) ?_
  refine AW.topR (show RC 1 2 = 8 by decide +kernel) ?_
  refine gfX11_253 rfl (by decide +kernel) (OB.at (ci := 2) (show shp 8 = (12, 0) by decide +kernel) (by decide)) ?_
  refine ax_icmp_ge (off := 68) (tgt := 104) (x' := wr y4) (y' := wr (g 8 8)) (by decide +kernel) (by decide) rfl rfl (fun hc => ?_) (fun hc => ?_)
  · have hF := hF.1 hc
    refine aw_iload_n (k' := 2) (by decide +kernel) rfl ?_
    exact aw_iret (by decide +kernel) rfl hF
  · have hF := hF.2 hc
    refine aw_iload_n (k' := 1) (by decide +kernel) rfl ?_
    refine ax_if_ne (off := 18) (tgt := 58) (x' := wr x1) (by decide +kernel) (by decide) rfl (fun hc => ?_) (fun hc => ?_)
    · have hF := hF.1 hc
      refine aw_iload_n (k' := 1) (by decide +kernel) rfl ?_
      refine aw_iconst (n := 1) (by decide +kernel) ?_
      refine ax_icmp_ne (off := 12) (tgt := 72) (x' := wr x1) (y' := 1) (by decide +kernel) (by decide) rfl (by decide +kernel) (fun hc => ?_) (fun hc => ?_)
      · have hF := hF.1 hc
        refine aw_aload_n (k' := 0) (by decide +kernel) rfl ?_
        refine gfX11_26 rfl (by decide +kernel) (OB.at (ci := 9) (show shp 1 = (19, 0) by decide +kernel) (by decide)) ?_
        refine AW.topR (show RC 1 2 = 8 by decide +kernel) ?_
        refine gfX11_175 rfl (by decide +kernel) (OB.at (ci := 2) (show shp 8 = (12, 0) by decide +kernel) (by decide)) ?_
        refine AW.topR (show RC 8 3 = 12 by decide +kernel) ?_
        refine aw_iload (i := 4) (by decide +kernel) rfl ?_
        refine aw_callS (y := yX11_cell) (M2 := mX11_cell) (as := [vR 12, vI y4]) (S := []) (d2 := d) (b2 := 0) (b3 := b) cwX11_cell mlX11_168 stX11_cell (by decide +kernel) rfl (Nat.le_refl _) (Nat.le_of_eq (Nat.zero_add _)) rfl rfl (by simp [oneSlot]) (Nat.le_of_ble_eq_true rfl) (c_cell (show (shp 12).1 = 0 by decide +kernel) ?_)
        show AW Γ l mX11_most (d + 1) b 84 [vR 1, vI x1, vI y2, vI y3, vI y4, vU] [vI (cel g 12 y4)] (stt g) K
        refine aw_istore (i := 5) (by decide +kernel) (by decide) ?_
        show AW Γ l mX11_most (d + 1) b 86 [vR 1, vI x1, vI y2, vI y3, vI y4, vI (cel g 12 y4)] [] (stt g) K
        refine aw_iload (i := 5) (by decide +kernel) rfl ?_
        refine aw_iload_n (k' := 3) (by decide +kernel) rfl ?_
        refine ax_icmp_le (off := 9) (tgt := 98) (x' := wr (cel g 12 y4)) (y' := wr y3) (by decide +kernel) (by decide) rfl rfl (fun hc => ?_) (fun hc => ?_)
        · have hF := hF.1 hc
          refine aw_iinc (i := 4) (n := 1) (by decide +kernel) rfl (by decide) ?_
          show AW Γ l mX11_most (d + 1) b 101 [vR 1, vI x1, vI y2, vI y3, vI (y4 + 1), vI (cel g 12 y4)] [] (stt g) K
          refine aw_goto (off := -74) (tgt := 27) (by decide +kernel) (by decide) ?_
          exact hF
        · have hF := hF.2 hc
          refine aw_iload (i := 5) (by decide +kernel) rfl ?_
          refine aw_istore_n (k' := 3) (by decide +kernel) (by decide) ?_
          show AW Γ l mX11_most (d + 1) b 95 [vR 1, vI x1, vI y2, vI (cel g 12 y4), vI y4, vI (cel g 12 y4)] [] (stt g) K
          refine aw_iload (i := 4) (by decide +kernel) rfl ?_
          refine aw_istore_n (k' := 2) (by decide +kernel) (by decide) ?_
          show AW Γ l mX11_most (d + 1) b 98 [vR 1, vI x1, vI y4, vI (cel g 12 y4), vI y4, vI (cel g 12 y4)] [] (stt g) K
          refine aw_iinc (i := 4) (n := 1) (by decide +kernel) rfl (by decide) ?_
          show AW Γ l mX11_most (d + 1) b 101 [vR 1, vI x1, vI y4, vI (cel g 12 y4), vI (y4 + 1), vI (cel g 12 y4)] [] (stt g) K
          refine aw_goto (off := -74) (tgt := 27) (by decide +kernel) (by decide) ?_
          exact hF
      · have hF := hF.2 hc
        refine aw_aload_n (k' := 0) (by decide +kernel) rfl ?_
        refine aw_iload (i := 4) (by decide +kernel) rfl ?_
        refine aw_callV (y := yX11_heldWeight) (M2 := mX11_heldWeight) (as := [vI y4]) (S := []) (t := 1) (d2 := d) (b2 := 0) (b3 := b) cwX11_heldWeight mlX11_259 imX11_heldWeight seX11_heldWeight (by decide +kernel) rfl (ci := 9) rfl (OB.at (ci := 9) (show shp 1 = (19, 0) by decide +kernel) (by decide)) (Nat.le_refl _) (Nat.le_of_eq (Nat.zero_add _)) rfl rfl (by simp [oneSlot]) (Nat.le_of_ble_eq_true rfl) (Ct.mono hF ?_)
        rintro o h' (⟨v1, g1, rfl, rfl, hG⟩ | ⟨E, g, rfl, rfl, hG⟩)
        · show AW Γ l mX11_most (d + 1) b 69 [vR 1, vI x1, vI y2, vI y3, vI y4, vU] [vI v1] (stt g1) K
          refine aw_goto (off := 15) (tgt := 84) (by decide +kernel) (by decide) ?_
          refine aw_istore (i := 5) (by decide +kernel) (by decide) ?_
          show AW Γ l mX11_most (d + 1) b 86 [vR 1, vI x1, vI y2, vI y3, vI y4, vI v1] [] (stt g1) K
          refine aw_iload (i := 5) (by decide +kernel) rfl ?_
          refine aw_iload_n (k' := 3) (by decide +kernel) rfl ?_
          refine ax_icmp_le (off := 9) (tgt := 98) (x' := wr v1) (y' := wr y3) (by decide +kernel) (by decide) rfl rfl (fun hc => ?_) (fun hc => ?_)
          · have hG := hG.1 hc
            refine aw_iinc (i := 4) (n := 1) (by decide +kernel) rfl (by decide) ?_
            show AW Γ l mX11_most (d + 1) b 101 [vR 1, vI x1, vI y2, vI y3, vI (y4 + 1), vI v1] [] (stt g1) K
            refine aw_goto (off := -74) (tgt := 27) (by decide +kernel) (by decide) ?_
            exact hG
          · have hG := hG.2 hc
            refine aw_iload (i := 5) (by decide +kernel) rfl ?_
            refine aw_istore_n (k' := 3) (by decide +kernel) (by decide) ?_
            show AW Γ l mX11_most (d + 1) b 95 [vR 1, vI x1, vI y2, vI v1, vI y4, vI v1] [] (stt g1) K
            refine aw_iload (i := 4) (by decide +kernel) rfl ?_
            refine aw_istore_n (k' := 2) (by decide +kernel) (by decide) ?_
            show AW Γ l mX11_most (d + 1) b 98 [vR 1, vI x1, vI y4, vI v1, vI y4, vI v1] [] (stt g1) K
            refine aw_iinc (i := 4) (n := 1) (by decide +kernel) rfl (by decide) ?_
            show AW Γ l mX11_most (d + 1) b 101 [vR 1, vI x1, vI y4, vI v1, vI (y4 + 1), vI v1] [] (stt g1) K
            refine aw_goto (off := -74) (tgt := 27) (by decide +kernel) (by decide) ?_
            exact hG
        · exact hG
    · have hF := hF.2 hc
      refine aw_aload_n (k' := 0) (by decide +kernel) rfl ?_
      refine gfX11_26 rfl (by decide +kernel) (OB.at (ci := 9) (show shp 1 = (19, 0) by decide +kernel) (by decide)) ?_
      refine AW.topR (show RC 1 2 = 8 by decide +kernel) ?_
      refine gfX11_165 rfl (by decide +kernel) (OB.at (ci := 2) (show shp 8 = (12, 0) by decide +kernel) (by decide)) ?_
      refine AW.topR (show RC 8 1 = 10 by decide +kernel) ?_
      refine aw_iload (i := 4) (by decide +kernel) rfl ?_
      refine aw_callS (y := yX11_cell) (M2 := mX11_cell) (as := [vR 10, vI y4]) (S := []) (d2 := d) (b2 := 0) (b3 := b) cwX11_cell mlX11_168 stX11_cell (by decide +kernel) rfl (Nat.le_refl _) (Nat.le_of_eq (Nat.zero_add _)) rfl rfl (by simp [oneSlot]) (Nat.le_of_ble_eq_true rfl) (c_cell (show (shp 10).1 = 0 by decide +kernel) ?_)
      show AW Γ l mX11_most (d + 1) b 55 [vR 1, vI x1, vI y2, vI y3, vI y4, vU] [vI (cel g 10 y4)] (stt g) K
      refine aw_goto (off := 29) (tgt := 84) (by decide +kernel) (by decide) ?_
      refine aw_istore (i := 5) (by decide +kernel) (by decide) ?_
      show AW Γ l mX11_most (d + 1) b 86 [vR 1, vI x1, vI y2, vI y3, vI y4, vI (cel g 10 y4)] [] (stt g) K
      refine aw_iload (i := 5) (by decide +kernel) rfl ?_
      refine aw_iload_n (k' := 3) (by decide +kernel) rfl ?_
      refine ax_icmp_le (off := 9) (tgt := 98) (x' := wr (cel g 10 y4)) (y' := wr y3) (by decide +kernel) (by decide) rfl rfl (fun hc => ?_) (fun hc => ?_)
      · have hF := hF.1 hc
        refine aw_iinc (i := 4) (n := 1) (by decide +kernel) rfl (by decide) ?_
        show AW Γ l mX11_most (d + 1) b 101 [vR 1, vI x1, vI y2, vI y3, vI (y4 + 1), vI (cel g 10 y4)] [] (stt g) K
        refine aw_goto (off := -74) (tgt := 27) (by decide +kernel) (by decide) ?_
        exact hF
      · have hF := hF.2 hc
        refine aw_iload (i := 5) (by decide +kernel) rfl ?_
        refine aw_istore_n (k' := 3) (by decide +kernel) (by decide) ?_
        show AW Γ l mX11_most (d + 1) b 95 [vR 1, vI x1, vI y2, vI (cel g 10 y4), vI y4, vI (cel g 10 y4)] [] (stt g) K
        refine aw_iload (i := 4) (by decide +kernel) rfl ?_
        refine aw_istore_n (k' := 2) (by decide +kernel) (by decide) ?_
        show AW Γ l mX11_most (d + 1) b 98 [vR 1, vI x1, vI y4, vI (cel g 10 y4), vI y4, vI (cel g 10 y4)] [] (stt g) K
        refine aw_iinc (i := 4) (n := 1) (by decide +kernel) rfl (by decide) ?_
        show AW Γ l mX11_most (d + 1) b 101 [vR 1, vI x1, vI y4, vI (cel g 10 y4), vI (y4 + 1), vI (cel g 10 y4)] [] (stt g) K
        refine aw_goto (off := -74) (tgt := 27) (by decide +kernel) (by decide) ?_
        exact hF

set_option maxHeartbeats 1000000 in
theorem wpX11_which {Γ : Cfg} {l : Launch} {d b : Nat} {g : GG} {K : Ou → HP → Prop} {x1 : Int} (hb : 1 ≤ b) (hF : (wr x1 < 0 → K (.inr "java/util/NoSuchElementException") (stt g)) ∧ (¬ (wr x1 < 0) → (wr x1 ≤ 2 → Ct Γ l d 0 yX2_bitsOf mX2_bitsOf [vR 8, vI x1] (stt g) (bI (fun v1 g1 => K (.inl (vI v1)) (stt g1)) K)) ∧ (¬ (wr x1 ≤ 2) → K (.inr "java/util/NoSuchElementException") (stt g)))) : Ct Γ l (d + 1) b yX11_which mX11_which [vR 1, vI x1] (stt g) K := by
  refine Ct.enter (L := [vR 1, vI x1]) rfl rfl rfl (by decide +kernel) (by simp [oneSlot]) (Nat.le_of_ble_eq_true rfl) rfl ?_
  refine aw_iload_n (k' := 1) (by decide +kernel) rfl ?_
  refine ax_if_lt (off := 8) (tgt := 9) (x' := wr x1) (by decide +kernel) (by decide) rfl (fun hc => ?_) (fun hc => ?_)
  · have hF := hF.1 hc
    exact thr208W (ix := 387) (i := 14) rfl (by decide) (by decide +kernel) (by decide +kernel) (by decide +kernel) (by decide +kernel) (by decide +kernel) (by decide +kernel) rfl (by omega) rfl (by simp [oneSlot]) (Nat.le_of_ble_eq_true rfl) hF
  · have hF := hF.2 hc
    refine aw_iload_n (k' := 1) (by decide +kernel) rfl ?_
    refine aw_iconst (n := 2) (by decide +kernel) ?_
    refine ax_icmp_le (off := 14) (tgt := 20) (x' := wr x1) (y' := 2) (by decide +kernel) (by decide) rfl (by decide +kernel) (fun hc => ?_) (fun hc => ?_)
    · have hF := hF.1 hc
      refine aw_aload_n (k' := 0) (by decide +kernel) rfl ?_
      refine gfX11_26 rfl (by decide +kernel) (OB.at (ci := 9) (show shp 1 = (19, 0) by decide +kernel) (by decide)) ?_
      refine AW.topR (show RC 1 2 = 8 by decide +kernel) ?_
      refine aw_iload_n (k' := 1) (by decide +kernel) rfl ?_
      refine aw_callV (y := yX2_bitsOf) (M2 := mX2_bitsOf) (as := [vI x1]) (S := []) (t := 8) (d2 := d) (b2 := 0) (b3 := b) cwX2_bitsOf mlX11_327 imX2_bitsOf seX2_bitsOf (by decide +kernel) rfl (ci := 2) rfl (OB.at (ci := 2) (show shp 8 = (12, 0) by decide +kernel) (by decide)) (Nat.le_refl _) (Nat.le_of_eq (Nat.zero_add _)) rfl rfl (by simp [oneSlot]) (Nat.le_of_ble_eq_true rfl) (Ct.mono hF ?_)
      rintro o h' (⟨v1, g1, rfl, rfl, hG⟩ | ⟨E, g, rfl, rfl, hG⟩)
      · show AW Γ l mX11_which (d + 1) b 28 [vR 1, vI x1] [vI v1] (stt g1) K
        exact aw_iret (by decide +kernel) rfl hG
      · exact hG
    · have hF := hF.2 hc
      exact thr208W (ix := 387) (i := 14) rfl (by decide) (by decide +kernel) (by decide +kernel) (by decide +kernel) (by decide +kernel) (by decide +kernel) (by decide +kernel) rfl (by omega) rfl (by simp [oneSlot]) (Nat.le_of_ble_eq_true rfl) hF

set_option maxHeartbeats 1000000 in
theorem wpX11_twins {Γ : Cfg} {l : Launch} {d b : Nat} {g : GG} {K : Ou → HP → Prop}  (hF : AW Γ l mX11_twins (d + 1) b 4 [vR 1, vI 0, vI 0, vU, vU] [] (stt g) K) : Ct Γ l (d + 1) b yX11_twins mX11_twins [vR 1] (stt g) K := by
  refine Ct.enter (L := [vR 1, vU, vU, vU, vU]) rfl rfl rfl (by decide +kernel) (by simp [oneSlot]) (Nat.le_of_ble_eq_true rfl) rfl ?_
  refine aw_iconst (n := 0) (by decide +kernel) ?_
  refine aw_istore_n (k' := 1) (by decide +kernel) (by decide) ?_
  show AW Γ l mX11_twins (d + 1) b 2 [vR 1, vI 0, vU, vU, vU] [] (stt g) K
  refine aw_iconst (n := 0) (by decide +kernel) ?_
  refine aw_istore_n (k' := 2) (by decide +kernel) (by decide) ?_
  show AW Γ l mX11_twins (d + 1) b 4 [vR 1, vI 0, vI 0, vU, vU] [] (stt g) K
  exact hF
set_option maxHeartbeats 1000000 in
theorem wpX11_twins_4 {Γ : Cfg} {l : Launch} {d b : Nat} {g : GG} {K : Ou → HP → Prop} {y1 : Int} {y2 : Int} (hF : (wr (g 8 8) ≤ wr y2 → K (.inl (vI y1)) (stt g)) ∧ (¬ (wr (g 8 8) ≤ wr y2) → AW Γ l mX11_twins (d + 1) b 19 [vR 1, vI y1, vI y2, vI (y2 + 1), vU] [] (stt g) K)) : AW Γ l mX11_twins (d + 1) b 4 [vR 1, vI y1, vI y2, vU, vU] [] (stt g) K := by
  refine aw_iload_n (k' := 2) (by decide +kernel) rfl ?_
  refine aw_aload_n (k' := 0) (by decide +kernel) rfl ?_
  refine gfX11_26 rfl (by decide +kernel) (OB.at (ci := 9) (show shp 1 = (19, 0) by decide +kernel) (by decide)) ?_
  refine AW.topR (show RC 1 2 = 8 by decide +kernel) ?_
  refine gfX11_253 rfl (by decide +kernel) (OB.at (ci := 2) (show shp 8 = (12, 0) by decide +kernel) (by decide)) ?_
  refine ax_icmp_ge (off := 76) (tgt := 88) (x' := wr y2) (y' := wr (g 8 8)) (by decide +kernel) (by decide) rfl rfl (fun hc => ?_) (fun hc => ?_)
  · have hF := hF.1 hc
    refine aw_iload_n (k' := 1) (by decide +kernel) rfl ?_
    exact aw_iret (by decide +kernel) rfl hF
  · have hF := hF.2 hc
    refine aw_iload_n (k' := 2) (by decide +kernel) rfl ?_
    refine aw_iconst (n := 1) (by decide +kernel) ?_
    refine aw_iadd (by decide +kernel) ?_
    refine aw_istore_n (k' := 3) (by decide +kernel) (by decide) ?_
    show AW Γ l mX11_twins (d + 1) b 19 [vR 1, vI y1, vI y2, vI (y2 + 1), vU] [] (stt g) K
    exact hF
set_option maxHeartbeats 1000000 in
theorem wpX11_twins_19 {Γ : Cfg} {l : Launch} {d b : Nat} {g : GG} {K : Ou → HP → Prop} {y1 : Int} {y2 : Int} {y3 : Int} (hF : (wr (g 8 8) ≤ wr y3 → AW Γ l mX11_twins (d + 1) b 4 [vR 1, vI y1, vI (y2 + 1), vI y3, vU] [] (stt g) K) ∧ (¬ (wr (g 8 8) ≤ wr y3) → (¬ wr (cel g 10 y2) = wr (cel g 10 y3) → AW Γ l mX11_twins (d + 1) b 19 [vR 1, vI y1, vI y2, vI (y3 + 1), vI (cel g 10 y2)] [] (stt g) K) ∧ (¬ (¬ wr (cel g 10 y2) = wr (cel g 10 y3)) → Ct Γ l d 0 yX2_alikeFirst mX2_alikeFirst [vR 8, vI y2, vI y3] (stt g) (bI (fun v1 g1 => (¬ wr v1 = wr (cel g 10 y2) → AW Γ l mX11_twins (d + 1) b 19 [vR 1, vI y1, vI y2, vI (y3 + 1), vI (cel g 10 y2)] [] (stt g1) K) ∧ (¬ (¬ wr v1 = wr (cel g 10 y2)) → AW Γ l mX11_twins (d + 1) b 19 [vR 1, vI (y1 + 1), vI y2, vI (y3 + 1), vI (cel g 10 y2)] [] (stt g1) K)) K)))) : AW Γ l mX11_twins (d + 1) b 19 [vR 1, vI y1, vI y2, vI y3, vU] [] (stt g) K := by
  refine aw_iload_n (k' := 3) (by decide +kernel) rfl ?_
  refine aw_aload_n (k' := 0) (by decide +kernel) rfl ?_
  refine gfX11_26 rfl (by decide +kernel) (OB.at (ci := 9) (show shp 1 = (19, 0) by decide +kernel) (by decide)) ?_
  refine AW.topR (show RC 1 2 = 8 by decide +kernel) ?_
  refine gfX11_253 rfl (by decide +kernel) (OB.at (ci := 2) (show shp 8 = (12, 0) by decide +kernel) (by decide)) ?_
  refine ax_icmp_ge (off := 55) (tgt := 82) (x' := wr y3) (y' := wr (g 8 8)) (by decide +kernel) (by decide) rfl rfl (fun hc => ?_) (fun hc => ?_)
  · have hF := hF.1 hc
    refine aw_iinc (i := 2) (n := 1) (by decide +kernel) rfl (by decide) ?_
    show AW Γ l mX11_twins (d + 1) b 85 [vR 1, vI y1, vI (y2 + 1), vI y3, vU] [] (stt g) K
    refine aw_goto (off := -81) (tgt := 4) (by decide +kernel) (by decide) ?_
    exact hF
  · have hF := hF.2 hc
    refine aw_aload_n (k' := 0) (by decide +kernel) rfl ?_
    refine gfX11_26 rfl (by decide +kernel) (OB.at (ci := 9) (show shp 1 = (19, 0) by decide +kernel) (by decide)) ?_
    refine AW.topR (show RC 1 2 = 8 by decide +kernel) ?_
    refine gfX11_165 rfl (by decide +kernel) (OB.at (ci := 2) (show shp 8 = (12, 0) by decide +kernel) (by decide)) ?_
    refine AW.topR (show RC 8 1 = 10 by decide +kernel) ?_
    refine aw_iload_n (k' := 2) (by decide +kernel) rfl ?_
    refine aw_callS (y := yX11_cell) (M2 := mX11_cell) (as := [vR 10, vI y2]) (S := []) (d2 := d) (b2 := 0) (b3 := b) cwX11_cell mlX11_168 stX11_cell (by decide +kernel) rfl (Nat.le_refl _) (Nat.le_of_eq (Nat.zero_add _)) rfl rfl (by simp [oneSlot]) (Nat.le_of_ble_eq_true rfl) (c_cell (show (shp 10).1 = 0 by decide +kernel) ?_)
    show AW Γ l mX11_twins (d + 1) b 41 [vR 1, vI y1, vI y2, vI y3, vU] [vI (cel g 10 y2)] (stt g) K
    refine aw_istore (i := 4) (by decide +kernel) (by decide) ?_
    show AW Γ l mX11_twins (d + 1) b 43 [vR 1, vI y1, vI y2, vI y3, vI (cel g 10 y2)] [] (stt g) K
    refine aw_iload (i := 4) (by decide +kernel) rfl ?_
    refine aw_aload_n (k' := 0) (by decide +kernel) rfl ?_
    refine gfX11_26 rfl (by decide +kernel) (OB.at (ci := 9) (show shp 1 = (19, 0) by decide +kernel) (by decide)) ?_
    refine AW.topR (show RC 1 2 = 8 by decide +kernel) ?_
    refine gfX11_165 rfl (by decide +kernel) (OB.at (ci := 2) (show shp 8 = (12, 0) by decide +kernel) (by decide)) ?_
    refine AW.topR (show RC 8 1 = 10 by decide +kernel) ?_
    refine aw_iload_n (k' := 3) (by decide +kernel) rfl ?_
    refine aw_callS (y := yX11_cell) (M2 := mX11_cell) (as := [vR 10, vI y3]) (S := [vI (cel g 10 y2)]) (d2 := d) (b2 := 0) (b3 := b) cwX11_cell mlX11_168 stX11_cell (by decide +kernel) rfl (Nat.le_refl _) (Nat.le_of_eq (Nat.zero_add _)) rfl rfl (by simp [oneSlot]) (Nat.le_of_ble_eq_true rfl) (c_cell (show (shp 10).1 = 0 by decide +kernel) ?_)
    show AW Γ l mX11_twins (d + 1) b 56 [vR 1, vI y1, vI y2, vI y3, vI (cel g 10 y2)] [vI (cel g 10 y3), vI (cel g 10 y2)] (stt g) K
    refine ax_icmp_ne (off := 20) (tgt := 76) (x' := wr (cel g 10 y2)) (y' := wr (cel g 10 y3)) (by decide +kernel) (by decide) rfl rfl (fun hc => ?_) (fun hc => ?_)
    · have hF := hF.1 hc
      refine aw_iinc (i := 3) (n := 1) (by decide +kernel) rfl (by decide) ?_
      show AW Γ l mX11_twins (d + 1) b 79 [vR 1, vI y1, vI y2, vI (y3 + 1), vI (cel g 10 y2)] [] (stt g) K
      refine aw_goto (off := -60) (tgt := 19) (by decide +kernel) (by decide) ?_
      exact hF
    · have hF := hF.2 hc
      refine aw_aload_n (k' := 0) (by decide +kernel) rfl ?_
      refine gfX11_26 rfl (by decide +kernel) (OB.at (ci := 9) (show shp 1 = (19, 0) by decide +kernel) (by decide)) ?_
      refine AW.topR (show RC 1 2 = 8 by decide +kernel) ?_
      refine aw_iload_n (k' := 2) (by decide +kernel) rfl ?_
      refine aw_iload_n (k' := 3) (by decide +kernel) rfl ?_
      refine aw_callV (y := yX2_alikeFirst) (M2 := mX2_alikeFirst) (as := [vI y2, vI y3]) (S := []) (t := 8) (d2 := d) (b2 := 0) (b3 := b) cwX2_alikeFirst mlX11_256 imX2_alikeFirst seX2_alikeFirst (by decide +kernel) rfl (ci := 2) rfl (OB.at (ci := 2) (show shp 8 = (12, 0) by decide +kernel) (by decide)) (Nat.le_refl _) (Nat.le_of_eq (Nat.zero_add _)) rfl rfl (by simp [oneSlot]) (Nat.le_of_ble_eq_true rfl) (Ct.mono hF ?_)
      rintro o h' (⟨v1, g1, rfl, rfl, hG⟩ | ⟨E, g, rfl, rfl, hG⟩)
      · show AW Γ l mX11_twins (d + 1) b 68 [vR 1, vI y1, vI y2, vI y3, vI (cel g 10 y2)] [vI v1] (stt g1) K
        refine aw_iload (i := 4) (by decide +kernel) rfl ?_
        refine ax_icmp_ne (off := 6) (tgt := 76) (x' := wr v1) (y' := wr (cel g 10 y2)) (by decide +kernel) (by decide) rfl rfl (fun hc => ?_) (fun hc => ?_)
        · have hG := hG.1 hc
          refine aw_iinc (i := 3) (n := 1) (by decide +kernel) rfl (by decide) ?_
          show AW Γ l mX11_twins (d + 1) b 79 [vR 1, vI y1, vI y2, vI (y3 + 1), vI (cel g 10 y2)] [] (stt g1) K
          refine aw_goto (off := -60) (tgt := 19) (by decide +kernel) (by decide) ?_
          exact hG
        · have hG := hG.2 hc
          refine aw_iinc (i := 1) (n := 1) (by decide +kernel) rfl (by decide) ?_
          show AW Γ l mX11_twins (d + 1) b 76 [vR 1, vI (y1 + 1), vI y2, vI y3, vI (cel g 10 y2)] [] (stt g1) K
          refine aw_iinc (i := 3) (n := 1) (by decide +kernel) rfl (by decide) ?_
          show AW Γ l mX11_twins (d + 1) b 79 [vR 1, vI (y1 + 1), vI y2, vI (y3 + 1), vI (cel g 10 y2)] [] (stt g1) K
          refine aw_goto (off := -60) (tgt := 19) (by decide +kernel) (by decide) ?_
          exact hG
      · exact hG

set_option maxHeartbeats 1000000 in
theorem wpX11_trial {Γ : Cfg} {l : Launch} {d b : Nat} {g : GG} {K : Ou → HP → Prop} {x1 : Int} {x2 : Int} (hb : 1 ≤ b) (hF : Ct Γ l d 1 yX11_needNumber mX11_needNumber [vI x1, vI 0, vI 60] (stt g) (bV (fun g1 => Ct Γ l d 0 yX2_copy mX2_copy [vR 17, vR 8] (stt g1) (bV (fun g2 => Ct Γ l d 0 yX1_passHours mX1_passHours [vR 160, vR 17, vI x1] (stt g2) (bI (fun v1 g3 => (wr x2 = 0 → Ct Γ l d 0 yX2_bitsOf mX2_bitsOf [vR 17, vI 2] (stt g3) (bI (fun v2 g4 => K (.inl (vI v2)) (stt g4)) K)) ∧ (¬ (wr x2 = 0) → K (.inl (vI (g3 17 12))) (stt g3))) K)) K)) K)) : Ct Γ l (d + 1) b yX11_trial mX11_trial [vR 1, vI x1, vI x2] (stt g) K := by
  refine Ct.enter (L := [vR 1, vI x1, vI x2]) rfl rfl rfl (by decide +kernel) (by simp [oneSlot]) (Nat.le_of_ble_eq_true rfl) rfl ?_
  refine aw_iload_n (k' := 1) (by decide +kernel) rfl ?_
  refine aw_iconst (n := 0) (by decide +kernel) ?_
  refine aw_bipush (n := 60) (by decide +kernel) (by decide +kernel) ?_
  refine aw_callS (y := yX11_needNumber) (M2 := mX11_needNumber) (as := [vI x1, vI 0, vI 60]) (S := []) (d2 := d) (b2 := 1) (b3 := b - 1) cwX11_needNumber mlX11_262 stX11_needNumber (by decide +kernel) rfl (Nat.le_refl _) (by omega) rfl rfl (by simp [oneSlot]) (Nat.le_of_ble_eq_true rfl) (Ct.mono hF ?_)
  rintro o h' (⟨g1, rfl, rfl, hG⟩ | ⟨E, g, rfl, rfl, hG⟩)
  · show AW Γ l mX11_trial (d + 1) (b - 1) 7 [vR 1, vI x1, vI x2] [] (stt g1) K
    refine aw_aload_n (k' := 0) (by decide +kernel) rfl ?_
    refine gfX11_30 rfl (by decide +kernel) (OB.at (ci := 9) (show shp 1 = (19, 0) by decide +kernel) (by decide)) ?_
    refine AW.topR (show RC 1 3 = 17 by decide +kernel) ?_
    refine aw_aload_n (k' := 0) (by decide +kernel) rfl ?_
    refine gfX11_26 rfl (by decide +kernel) (OB.at (ci := 9) (show shp 1 = (19, 0) by decide +kernel) (by decide)) ?_
    refine AW.topR (show RC 1 2 = 8 by decide +kernel) ?_
    refine aw_callV (y := yX2_copy) (M2 := mX2_copy) (as := [vR 8]) (S := []) (t := 17) (d2 := d) (b2 := 0) (b3 := b - 1) cwX2_copy mlX11_113 imX2_copy seX2_copy (by decide +kernel) rfl (ci := 2) rfl (OB.at (ci := 2) (show shp 17 = (12, 0) by decide +kernel) (by decide)) (Nat.le_refl _) (Nat.le_of_eq (Nat.zero_add _)) rfl rfl (by simp [oneSlot]) (Nat.le_of_ble_eq_true rfl) (Ct.mono hG ?_)
    rintro o h' (⟨g2, rfl, rfl, hG⟩ | ⟨E, g, rfl, rfl, hG⟩)
    · show AW Γ l mX11_trial (d + 1) (b - 1) 18 [vR 1, vI x1, vI x2] [] (stt g2) K
      refine aw_aload_n (k' := 0) (by decide +kernel) rfl ?_
      refine gfX11_67 rfl (by decide +kernel) (OB.at (ci := 9) (show shp 1 = (19, 0) by decide +kernel) (by decide)) ?_
      refine AW.topR (show RC 1 10 = 160 by decide +kernel) ?_
      refine aw_aload_n (k' := 0) (by decide +kernel) rfl ?_
      refine gfX11_30 rfl (by decide +kernel) (OB.at (ci := 9) (show shp 1 = (19, 0) by decide +kernel) (by decide)) ?_
      refine AW.topR (show RC 1 3 = 17 by decide +kernel) ?_
      refine aw_iload_n (k' := 1) (by decide +kernel) rfl ?_
      refine aw_callV (y := yX1_passHours) (M2 := mX1_passHours) (as := [vR 17, vI x1]) (S := []) (t := 160) (d2 := d) (b2 := 0) (b3 := b - 1) cwX1_passHours mlX11_269 imX1_passHours seX1_passHours (by decide +kernel) rfl (ci := 1) rfl (OB.at (ci := 1) (show shp 160 = (11, 0) by decide +kernel) (by decide)) (Nat.le_refl _) (Nat.le_of_eq (Nat.zero_add _)) rfl rfl (by simp [oneSlot]) (Nat.le_of_ble_eq_true rfl) (Ct.mono hG ?_)
      rintro o h' (⟨v1, g3, rfl, rfl, hG⟩ | ⟨E, g, rfl, rfl, hG⟩)
      · show AW Γ l mX11_trial (d + 1) (b - 1) 30 [vR 1, vI x1, vI x2] [vI v1] (stt g3) K
        refine aw_pop (by decide +kernel) trivial ?_
        refine aw_iload_n (k' := 2) (by decide +kernel) rfl ?_
        refine ax_if_eq (off := 13) (tgt := 45) (x' := wr x2) (by decide +kernel) (by decide) rfl (fun hc => ?_) (fun hc => ?_)
        · have hG := hG.1 hc
          refine aw_aload_n (k' := 0) (by decide +kernel) rfl ?_
          refine gfX11_30 rfl (by decide +kernel) (OB.at (ci := 9) (show shp 1 = (19, 0) by decide +kernel) (by decide)) ?_
          refine AW.topR (show RC 1 3 = 17 by decide +kernel) ?_
          refine aw_iconst (n := 2) (by decide +kernel) ?_
          refine aw_callV (y := yX2_bitsOf) (M2 := mX2_bitsOf) (as := [vI 2]) (S := []) (t := 17) (d2 := d) (b2 := 0) (b3 := b - 1) cwX2_bitsOf mlX11_327 imX2_bitsOf seX2_bitsOf (by decide +kernel) rfl (ci := 2) rfl (OB.at (ci := 2) (show shp 17 = (12, 0) by decide +kernel) (by decide)) (Nat.le_refl _) (Nat.le_of_eq (Nat.zero_add _)) rfl rfl (by simp [oneSlot]) (Nat.le_of_ble_eq_true rfl) (Ct.mono hG ?_)
          rintro o h' (⟨v2, g4, rfl, rfl, hG⟩ | ⟨E, g, rfl, rfl, hG⟩)
          · show AW Γ l mX11_trial (d + 1) (b - 1) 53 [vR 1, vI x1, vI x2] [vI v2] (stt g4) K
            exact aw_iret (by decide +kernel) rfl hG
          · exact hG
        · have hG := hG.2 hc
          refine aw_aload_n (k' := 0) (by decide +kernel) rfl ?_
          refine gfX11_30 rfl (by decide +kernel) (OB.at (ci := 9) (show shp 1 = (19, 0) by decide +kernel) (by decide)) ?_
          refine AW.topR (show RC 1 3 = 17 by decide +kernel) ?_
          refine gfX11_389 rfl (by decide +kernel) (OB.at (ci := 2) (show shp 17 = (12, 0) by decide +kernel) (by decide)) ?_
          refine aw_goto (off := 11) (tgt := 53) (by decide +kernel) (by decide) ?_
          exact aw_iret (by decide +kernel) rfl hG
      · exact hG
    · exact hG
  · exact hG

set_option maxHeartbeats 1000000 in
theorem wpX11_span {Γ : Cfg} {l : Launch} {d b : Nat} {g : GG} {K : Ou → HP → Prop} {x1 : Int} {x2 : Int} (hb : 1 ≤ b) (hF : Ct Γ l d 1 yX11_needNumber mX11_needNumber [vI x1, vI 0, vI 60] (stt g) (bV (fun g1 => AW Γ l mX11_span (d + 1) (b - 1) 12 [vR 1, vI x1, vI x2, vI (-1), vI 1, vU] [] (stt g1) K) K)) : Ct Γ l (d + 1) b yX11_span mX11_span [vR 1, vI x1, vI x2] (stt g) K := by
  refine Ct.enter (L := [vR 1, vI x1, vI x2, vU, vU, vU]) rfl rfl rfl (by decide +kernel) (by simp [oneSlot]) (Nat.le_of_ble_eq_true rfl) rfl ?_
  refine aw_iload_n (k' := 1) (by decide +kernel) rfl ?_
  refine aw_iconst (n := 0) (by decide +kernel) ?_
  refine aw_bipush (n := 60) (by decide +kernel) (by decide +kernel) ?_
  refine aw_callS (y := yX11_needNumber) (M2 := mX11_needNumber) (as := [vI x1, vI 0, vI 60]) (S := []) (d2 := d) (b2 := 1) (b3 := b - 1) cwX11_needNumber mlX11_262 stX11_needNumber (by decide +kernel) rfl (Nat.le_refl _) (by omega) rfl rfl (by simp [oneSlot]) (Nat.le_of_ble_eq_true rfl) (Ct.mono hF ?_)
  rintro o h' (⟨g1, rfl, rfl, hG⟩ | ⟨E, g, rfl, rfl, hG⟩)
  · show AW Γ l mX11_span (d + 1) (b - 1) 7 [vR 1, vI x1, vI x2, vU, vU, vU] [] (stt g1) K
    refine aw_iconst (n := -1) (by decide +kernel) ?_
    refine aw_istore_n (k' := 3) (by decide +kernel) (by decide) ?_
    show AW Γ l mX11_span (d + 1) (b - 1) 9 [vR 1, vI x1, vI x2, vI (-1), vU, vU] [] (stt g1) K
    refine aw_iconst (n := 1) (by decide +kernel) ?_
    refine aw_istore (i := 4) (by decide +kernel) (by decide) ?_
    show AW Γ l mX11_span (d + 1) (b - 1) 12 [vR 1, vI x1, vI x2, vI (-1), vI 1, vU] [] (stt g1) K
    exact hG
  · exact hG
set_option maxHeartbeats 1000000 in
theorem wpX11_span_12 {Γ : Cfg} {l : Launch} {d b : Nat} {g : GG} {K : Ou → HP → Prop} {x1 : Int} {x2 : Int} {y3 : Int} {y4 : Int} (hb : 1 ≤ b) (hF : (6 < wr y4 → K (.inl (vI y3)) (stt g)) ∧ (¬ (6 < wr y4) → Ct Γ l d 0 yX2_copy mX2_copy [vR 17, vR 8] (stt g) (bV (fun g1 => Ct Γ l d 0 yX1_passHours mX1_passHours [vR 160, vR 17, vI x1] (stt (upd2 g1 17 13 y4)) (bI (fun v1 g2 => (wr x2 = 0 → (wr y3 ≤ wr (g2 17 12) → (wr y3 = -1 → AW Γ l mX11_span (d + 1) b 12 [vR 1, vI x1, vI x2, vI (g2 17 12), vI (y4 + 1), vI 0] [] (stt g2) K) ∧ (¬ (wr y3 = -1) → AW Γ l mX11_span (d + 1) b 12 [vR 1, vI x1, vI x2, vI y3, vI (y4 + 1), vI 0] [] (stt g2) K)) ∧ (¬ (wr y3 ≤ wr (g2 17 12)) → (wr y3 = -1 → AW Γ l mX11_span (d + 1) b 12 [vR 1, vI x1, vI x2, vI (g2 17 12), vI (y4 + 1), vI 1] [] (stt g2) K) ∧ (¬ (wr y3 = -1) → AW Γ l mX11_span (d + 1) b 12 [vR 1, vI x1, vI x2, vI (g2 17 12), vI (y4 + 1), vI 1] [] (stt g2) K))) ∧ (¬ (wr x2 = 0) → (wr (g2 17 12) ≤ wr y3 → (wr y3 = -1 → AW Γ l mX11_span (d + 1) b 12 [vR 1, vI x1, vI x2, vI (g2 17 12), vI (y4 + 1), vI 0] [] (stt g2) K) ∧ (¬ (wr y3 = -1) → AW Γ l mX11_span (d + 1) b 12 [vR 1, vI x1, vI x2, vI y3, vI (y4 + 1), vI 0] [] (stt g2) K)) ∧ (¬ (wr (g2 17 12) ≤ wr y3) → (wr y3 = -1 → AW Γ l mX11_span (d + 1) b 12 [vR 1, vI x1, vI x2, vI (g2 17 12), vI (y4 + 1), vI 1] [] (stt g2) K) ∧ (¬ (wr y3 = -1) → AW Γ l mX11_span (d + 1) b 12 [vR 1, vI x1, vI x2, vI (g2 17 12), vI (y4 + 1), vI 1] [] (stt g2) K)))) K)) K))) : AW Γ l mX11_span (d + 1) b 12 [vR 1, vI x1, vI x2, vI y3, vI y4, vU] [] (stt g) K := by
  refine aw_iload (i := 4) (by decide +kernel) rfl ?_
  refine aw_bipush (n := 6) (by decide +kernel) (by decide +kernel) ?_
  refine ax_icmp_gt (off := 101) (tgt := 117) (x' := wr y4) (y' := 6) (by decide +kernel) (by decide) rfl (by decide +kernel) (fun hc => ?_) (fun hc => ?_)
  · have hF := hF.1 hc
    refine aw_iload_n (k' := 3) (by decide +kernel) rfl ?_
    exact aw_iret (by decide +kernel) rfl hF
  · have hF := hF.2 hc
    refine aw_aload_n (k' := 0) (by decide +kernel) rfl ?_
    refine gfX11_30 rfl (by decide +kernel) (OB.at (ci := 9) (show shp 1 = (19, 0) by decide +kernel) (by decide)) ?_
    refine AW.topR (show RC 1 3 = 17 by decide +kernel) ?_
    refine aw_aload_n (k' := 0) (by decide +kernel) rfl ?_
    refine gfX11_26 rfl (by decide +kernel) (OB.at (ci := 9) (show shp 1 = (19, 0) by decide +kernel) (by decide)) ?_
    refine AW.topR (show RC 1 2 = 8 by decide +kernel) ?_
    refine aw_callV (y := yX2_copy) (M2 := mX2_copy) (as := [vR 8]) (S := []) (t := 17) (d2 := d) (b2 := 0) (b3 := b) cwX2_copy mlX11_113 imX2_copy seX2_copy (by decide +kernel) rfl (ci := 2) rfl (OB.at (ci := 2) (show shp 17 = (12, 0) by decide +kernel) (by decide)) (Nat.le_refl _) (Nat.le_of_eq (Nat.zero_add _)) rfl rfl (by simp [oneSlot]) (Nat.le_of_ble_eq_true rfl) (Ct.mono hF ?_)
    rintro o h' (⟨g1, rfl, rfl, hG⟩ | ⟨E, g, rfl, rfl, hG⟩)
    · show AW Γ l mX11_span (d + 1) b 30 [vR 1, vI x1, vI x2, vI y3, vI y4, vU] [] (stt g1) K
      refine aw_aload_n (k' := 0) (by decide +kernel) rfl ?_
      refine gfX11_30 rfl (by decide +kernel) (OB.at (ci := 9) (show shp 1 = (19, 0) by decide +kernel) (by decide)) ?_
      refine AW.topR (show RC 1 3 = 17 by decide +kernel) ?_
      refine aw_iload (i := 4) (by decide +kernel) rfl ?_
      refine pfX11_392 rfl (by decide +kernel) (OB.at (ci := 2) (show shp 17 = (12, 0) by decide +kernel) (by decide)) ?_
      show AW Γ l mX11_span (d + 1) b 39 [vR 1, vI x1, vI x2, vI y3, vI y4, vU] [] (stt (upd2 g1 17 13 y4)) K
      refine aw_aload_n (k' := 0) (by decide +kernel) rfl ?_
      refine gfX11_67 rfl (by decide +kernel) (OB.at (ci := 9) (show shp 1 = (19, 0) by decide +kernel) (by decide)) ?_
      refine AW.topR (show RC 1 10 = 160 by decide +kernel) ?_
      refine aw_aload_n (k' := 0) (by decide +kernel) rfl ?_
      refine gfX11_30 rfl (by decide +kernel) (OB.at (ci := 9) (show shp 1 = (19, 0) by decide +kernel) (by decide)) ?_
      refine AW.topR (show RC 1 3 = 17 by decide +kernel) ?_
      refine aw_iload_n (k' := 1) (by decide +kernel) rfl ?_
      refine aw_callV (y := yX1_passHours) (M2 := mX1_passHours) (as := [vR 17, vI x1]) (S := []) (t := 160) (d2 := d) (b2 := 0) (b3 := b) cwX1_passHours mlX11_269 imX1_passHours seX1_passHours (by decide +kernel) rfl (ci := 1) rfl (OB.at (ci := 1) (show shp 160 = (11, 0) by decide +kernel) (by decide)) (Nat.le_refl _) (Nat.le_of_eq (Nat.zero_add _)) rfl rfl (by simp [oneSlot]) (Nat.le_of_ble_eq_true rfl) (Ct.mono hG ?_)
      rintro o h' (⟨v1, g2, rfl, rfl, hG⟩ | ⟨E, g, rfl, rfl, hG⟩)
      · show AW Γ l mX11_span (d + 1) b 51 [vR 1, vI x1, vI x2, vI y3, vI y4, vU] [vI v1] (stt g2) K
        refine aw_pop (by decide +kernel) trivial ?_
        refine aw_iload_n (k' := 2) (by decide +kernel) rfl ?_
        refine ax_if_eq (off := 22) (tgt := 75) (x' := wr x2) (by decide +kernel) (by decide) rfl (fun hc => ?_) (fun hc => ?_)
        · have hG := hG.1 hc
          refine aw_aload_n (k' := 0) (by decide +kernel) rfl ?_
          refine gfX11_30 rfl (by decide +kernel) (OB.at (ci := 9) (show shp 1 = (19, 0) by decide +kernel) (by decide)) ?_
          refine AW.topR (show RC 1 3 = 17 by decide +kernel) ?_
          refine gfX11_389 rfl (by decide +kernel) (OB.at (ci := 2) (show shp 17 = (12, 0) by decide +kernel) (by decide)) ?_
          refine aw_iload_n (k' := 3) (by decide +kernel) rfl ?_
          refine ax_icmp_ge (off := 7) (tgt := 90) (x' := wr (g2 17 12)) (y' := wr y3) (by decide +kernel) (by decide) rfl rfl (fun hc => ?_) (fun hc => ?_)
          · have hG := hG.1 hc
            refine aw_iconst (n := 0) (by decide +kernel) ?_
            refine aw_istore (i := 5) (by decide +kernel) (by decide) ?_
            show AW Γ l mX11_span (d + 1) b 93 [vR 1, vI x1, vI x2, vI y3, vI y4, vI 0] [] (stt g2) K
            refine aw_iload_n (k' := 3) (by decide +kernel) rfl ?_
            refine aw_iconst (n := -1) (by decide +kernel) ?_
            refine ax_icmp_eq (off := 8) (tgt := 103) (x' := wr y3) (y' := -1) (by decide +kernel) (by decide) rfl (by decide +kernel) (fun hc => ?_) (fun hc => ?_)
            · have hG := hG.1 hc
              refine aw_aload_n (k' := 0) (by decide +kernel) rfl ?_
              refine gfX11_30 rfl (by decide +kernel) (OB.at (ci := 9) (show shp 1 = (19, 0) by decide +kernel) (by decide)) ?_
              refine AW.topR (show RC 1 3 = 17 by decide +kernel) ?_
              refine gfX11_389 rfl (by decide +kernel) (OB.at (ci := 2) (show shp 17 = (12, 0) by decide +kernel) (by decide)) ?_
              refine aw_istore_n (k' := 3) (by decide +kernel) (by decide) ?_
              show AW Γ l mX11_span (d + 1) b 111 [vR 1, vI x1, vI x2, vI (g2 17 12), vI y4, vI 0] [] (stt g2) K
              refine aw_iinc (i := 4) (n := 1) (by decide +kernel) rfl (by decide) ?_
              show AW Γ l mX11_span (d + 1) b 114 [vR 1, vI x1, vI x2, vI (g2 17 12), vI (y4 + 1), vI 0] [] (stt g2) K
              refine aw_goto (off := -102) (tgt := 12) (by decide +kernel) (by decide) ?_
              exact hG
            · have hG := hG.2 hc
              refine aw_iload (i := 5) (by decide +kernel) rfl ?_
              refine ax_if_eq (off := 11) (tgt := 111) (x' := 0) (by decide +kernel) (by decide) (by decide +kernel) (fun hc => ?_) (fun hc => absurd (by decide) hc)
              refine aw_iinc (i := 4) (n := 1) (by decide +kernel) rfl (by decide) ?_
              show AW Γ l mX11_span (d + 1) b 114 [vR 1, vI x1, vI x2, vI y3, vI (y4 + 1), vI 0] [] (stt g2) K
              refine aw_goto (off := -102) (tgt := 12) (by decide +kernel) (by decide) ?_
              exact hG
          · have hG := hG.2 hc
            refine aw_iconst (n := 1) (by decide +kernel) ?_
            refine aw_goto (off := 4) (tgt := 91) (by decide +kernel) (by decide) ?_
            refine aw_istore (i := 5) (by decide +kernel) (by decide) ?_
            show AW Γ l mX11_span (d + 1) b 93 [vR 1, vI x1, vI x2, vI y3, vI y4, vI 1] [] (stt g2) K
            refine aw_iload_n (k' := 3) (by decide +kernel) rfl ?_
            refine aw_iconst (n := -1) (by decide +kernel) ?_
            refine ax_icmp_eq (off := 8) (tgt := 103) (x' := wr y3) (y' := -1) (by decide +kernel) (by decide) rfl (by decide +kernel) (fun hc => ?_) (fun hc => ?_)
            · have hG := hG.1 hc
              refine aw_aload_n (k' := 0) (by decide +kernel) rfl ?_
              refine gfX11_30 rfl (by decide +kernel) (OB.at (ci := 9) (show shp 1 = (19, 0) by decide +kernel) (by decide)) ?_
              refine AW.topR (show RC 1 3 = 17 by decide +kernel) ?_
              refine gfX11_389 rfl (by decide +kernel) (OB.at (ci := 2) (show shp 17 = (12, 0) by decide +kernel) (by decide)) ?_
              refine aw_istore_n (k' := 3) (by decide +kernel) (by decide) ?_
              show AW Γ l mX11_span (d + 1) b 111 [vR 1, vI x1, vI x2, vI (g2 17 12), vI y4, vI 1] [] (stt g2) K
              refine aw_iinc (i := 4) (n := 1) (by decide +kernel) rfl (by decide) ?_
              show AW Γ l mX11_span (d + 1) b 114 [vR 1, vI x1, vI x2, vI (g2 17 12), vI (y4 + 1), vI 1] [] (stt g2) K
              refine aw_goto (off := -102) (tgt := 12) (by decide +kernel) (by decide) ?_
              exact hG
            · have hG := hG.2 hc
              refine aw_iload (i := 5) (by decide +kernel) rfl ?_
              refine ax_if_eq (off := 11) (tgt := 111) (x' := 1) (by decide +kernel) (by decide) (by decide +kernel) (fun hc => absurd hc (by decide)) (fun hc => ?_)
              refine aw_aload_n (k' := 0) (by decide +kernel) rfl ?_
              refine gfX11_30 rfl (by decide +kernel) (OB.at (ci := 9) (show shp 1 = (19, 0) by decide +kernel) (by decide)) ?_
              refine AW.topR (show RC 1 3 = 17 by decide +kernel) ?_
              refine gfX11_389 rfl (by decide +kernel) (OB.at (ci := 2) (show shp 17 = (12, 0) by decide +kernel) (by decide)) ?_
              refine aw_istore_n (k' := 3) (by decide +kernel) (by decide) ?_
              show AW Γ l mX11_span (d + 1) b 111 [vR 1, vI x1, vI x2, vI (g2 17 12), vI y4, vI 1] [] (stt g2) K
              refine aw_iinc (i := 4) (n := 1) (by decide +kernel) rfl (by decide) ?_
              show AW Γ l mX11_span (d + 1) b 114 [vR 1, vI x1, vI x2, vI (g2 17 12), vI (y4 + 1), vI 1] [] (stt g2) K
              refine aw_goto (off := -102) (tgt := 12) (by decide +kernel) (by decide) ?_
              exact hG
        · have hG := hG.2 hc
          refine aw_aload_n (k' := 0) (by decide +kernel) rfl ?_
          refine gfX11_30 rfl (by decide +kernel) (OB.at (ci := 9) (show shp 1 = (19, 0) by decide +kernel) (by decide)) ?_
          refine AW.topR (show RC 1 3 = 17 by decide +kernel) ?_
          refine gfX11_389 rfl (by decide +kernel) (OB.at (ci := 2) (show shp 17 = (12, 0) by decide +kernel) (by decide)) ?_
          refine aw_iload_n (k' := 3) (by decide +kernel) rfl ?_
          refine ax_icmp_le (off := 7) (tgt := 71) (x' := wr (g2 17 12)) (y' := wr y3) (by decide +kernel) (by decide) rfl rfl (fun hc => ?_) (fun hc => ?_)
          · have hG := hG.1 hc
            refine aw_iconst (n := 0) (by decide +kernel) ?_
            refine aw_goto (off := 19) (tgt := 91) (by decide +kernel) (by decide) ?_
            refine aw_istore (i := 5) (by decide +kernel) (by decide) ?_
            show AW Γ l mX11_span (d + 1) b 93 [vR 1, vI x1, vI x2, vI y3, vI y4, vI 0] [] (stt g2) K
            refine aw_iload_n (k' := 3) (by decide +kernel) rfl ?_
            refine aw_iconst (n := -1) (by decide +kernel) ?_
            refine ax_icmp_eq (off := 8) (tgt := 103) (x' := wr y3) (y' := -1) (by decide +kernel) (by decide) rfl (by decide +kernel) (fun hc => ?_) (fun hc => ?_)
            · have hG := hG.1 hc
              refine aw_aload_n (k' := 0) (by decide +kernel) rfl ?_
              refine gfX11_30 rfl (by decide +kernel) (OB.at (ci := 9) (show shp 1 = (19, 0) by decide +kernel) (by decide)) ?_
              refine AW.topR (show RC 1 3 = 17 by decide +kernel) ?_
              refine gfX11_389 rfl (by decide +kernel) (OB.at (ci := 2) (show shp 17 = (12, 0) by decide +kernel) (by decide)) ?_
              refine aw_istore_n (k' := 3) (by decide +kernel) (by decide) ?_
              show AW Γ l mX11_span (d + 1) b 111 [vR 1, vI x1, vI x2, vI (g2 17 12), vI y4, vI 0] [] (stt g2) K
              refine aw_iinc (i := 4) (n := 1) (by decide +kernel) rfl (by decide) ?_
              show AW Γ l mX11_span (d + 1) b 114 [vR 1, vI x1, vI x2, vI (g2 17 12), vI (y4 + 1), vI 0] [] (stt g2) K
              refine aw_goto (off := -102) (tgt := 12) (by decide +kernel) (by decide) ?_
              exact hG
            · have hG := hG.2 hc
              refine aw_iload (i := 5) (by decide +kernel) rfl ?_
              refine ax_if_eq (off := 11) (tgt := 111) (x' := 0) (by decide +kernel) (by decide) (by decide +kernel) (fun hc => ?_) (fun hc => absurd (by decide) hc)
              refine aw_iinc (i := 4) (n := 1) (by decide +kernel) rfl (by decide) ?_
              show AW Γ l mX11_span (d + 1) b 114 [vR 1, vI x1, vI x2, vI y3, vI (y4 + 1), vI 0] [] (stt g2) K
              refine aw_goto (off := -102) (tgt := 12) (by decide +kernel) (by decide) ?_
              exact hG
          · have hG := hG.2 hc
            refine aw_iconst (n := 1) (by decide +kernel) ?_
            refine aw_goto (off := 23) (tgt := 91) (by decide +kernel) (by decide) ?_
            refine aw_istore (i := 5) (by decide +kernel) (by decide) ?_
            show AW Γ l mX11_span (d + 1) b 93 [vR 1, vI x1, vI x2, vI y3, vI y4, vI 1] [] (stt g2) K
            refine aw_iload_n (k' := 3) (by decide +kernel) rfl ?_
            refine aw_iconst (n := -1) (by decide +kernel) ?_
            refine ax_icmp_eq (off := 8) (tgt := 103) (x' := wr y3) (y' := -1) (by decide +kernel) (by decide) rfl (by decide +kernel) (fun hc => ?_) (fun hc => ?_)
            · have hG := hG.1 hc
              refine aw_aload_n (k' := 0) (by decide +kernel) rfl ?_
              refine gfX11_30 rfl (by decide +kernel) (OB.at (ci := 9) (show shp 1 = (19, 0) by decide +kernel) (by decide)) ?_
              refine AW.topR (show RC 1 3 = 17 by decide +kernel) ?_
              refine gfX11_389 rfl (by decide +kernel) (OB.at (ci := 2) (show shp 17 = (12, 0) by decide +kernel) (by decide)) ?_
              refine aw_istore_n (k' := 3) (by decide +kernel) (by decide) ?_
              show AW Γ l mX11_span (d + 1) b 111 [vR 1, vI x1, vI x2, vI (g2 17 12), vI y4, vI 1] [] (stt g2) K
              refine aw_iinc (i := 4) (n := 1) (by decide +kernel) rfl (by decide) ?_
              show AW Γ l mX11_span (d + 1) b 114 [vR 1, vI x1, vI x2, vI (g2 17 12), vI (y4 + 1), vI 1] [] (stt g2) K
              refine aw_goto (off := -102) (tgt := 12) (by decide +kernel) (by decide) ?_
              exact hG
            · have hG := hG.2 hc
              refine aw_iload (i := 5) (by decide +kernel) rfl ?_
              refine ax_if_eq (off := 11) (tgt := 111) (x' := 1) (by decide +kernel) (by decide) (by decide +kernel) (fun hc => absurd hc (by decide)) (fun hc => ?_)
              refine aw_aload_n (k' := 0) (by decide +kernel) rfl ?_
              refine gfX11_30 rfl (by decide +kernel) (OB.at (ci := 9) (show shp 1 = (19, 0) by decide +kernel) (by decide)) ?_
              refine AW.topR (show RC 1 3 = 17 by decide +kernel) ?_
              refine gfX11_389 rfl (by decide +kernel) (OB.at (ci := 2) (show shp 17 = (12, 0) by decide +kernel) (by decide)) ?_
              refine aw_istore_n (k' := 3) (by decide +kernel) (by decide) ?_
              show AW Γ l mX11_span (d + 1) b 111 [vR 1, vI x1, vI x2, vI (g2 17 12), vI y4, vI 1] [] (stt g2) K
              refine aw_iinc (i := 4) (n := 1) (by decide +kernel) rfl (by decide) ?_
              show AW Γ l mX11_span (d + 1) b 114 [vR 1, vI x1, vI x2, vI (g2 17 12), vI (y4 + 1), vI 1] [] (stt g2) K
              refine aw_goto (off := -102) (tgt := 12) (by decide +kernel) (by decide) ?_
              exact hG
      · exact hG
    · exact hG

set_option maxHeartbeats 1000000 in
theorem wpX11_led {Γ : Cfg} {l : Launch} {d b : Nat} {g : GG} {K : Ou → HP → Prop} {x1 : Int} {x2 : Int} (hb : 1 ≤ b) (hF : Ct Γ l d 1 yX11_needPerson mX11_needPerson [vR 1, vI x1] (stt g) (bV (fun g1 => AW Γ l mX11_led (d + 1) (b - 1) 13 [vR 1, vI x1, vI x2, vI 0, vI (-1), vI 0] [] (stt g1) K) K)) : Ct Γ l (d + 1) b yX11_led mX11_led [vR 1, vI x1, vI x2] (stt g) K := by
  refine Ct.enter (L := [vR 1, vI x1, vI x2, vU, vU, vU]) rfl rfl rfl (by decide +kernel) (by simp [oneSlot]) (Nat.le_of_ble_eq_true rfl) rfl ?_
  refine aw_aload_n (k' := 0) (by decide +kernel) rfl ?_
  refine aw_iload_n (k' := 1) (by decide +kernel) rfl ?_
  refine aw_callV (y := yX11_needPerson) (M2 := mX11_needPerson) (as := [vI x1]) (S := []) (t := 1) (d2 := d) (b2 := 1) (b3 := b - 1) cwX11_needPerson mlX11_162 imX11_needPerson seX11_needPerson (by decide +kernel) rfl (ci := 9) rfl (OB.at (ci := 9) (show shp 1 = (19, 0) by decide +kernel) (by decide)) (Nat.le_refl _) (by omega) rfl rfl (by simp [oneSlot]) (Nat.le_of_ble_eq_true rfl) (Ct.mono hF ?_)
  rintro o h' (⟨g1, rfl, rfl, hG⟩ | ⟨E, g, rfl, rfl, hG⟩)
  · show AW Γ l mX11_led (d + 1) (b - 1) 5 [vR 1, vI x1, vI x2, vU, vU, vU] [] (stt g1) K
    refine aw_iconst (n := 0) (by decide +kernel) ?_
    refine aw_istore_n (k' := 3) (by decide +kernel) (by decide) ?_
    show AW Γ l mX11_led (d + 1) (b - 1) 7 [vR 1, vI x1, vI x2, vI 0, vU, vU] [] (stt g1) K
    refine aw_iconst (n := -1) (by decide +kernel) ?_
    refine aw_istore (i := 4) (by decide +kernel) (by decide) ?_
    show AW Γ l mX11_led (d + 1) (b - 1) 10 [vR 1, vI x1, vI x2, vI 0, vI (-1), vU] [] (stt g1) K
    refine aw_iconst (n := 0) (by decide +kernel) ?_
    refine aw_istore (i := 5) (by decide +kernel) (by decide) ?_
    show AW Γ l mX11_led (d + 1) (b - 1) 13 [vR 1, vI x1, vI x2, vI 0, vI (-1), vI 0] [] (stt g1) K
    exact hG
  · exact hG
set_option maxHeartbeats 1000000 in
theorem wpX11_led_13 {Γ : Cfg} {l : Launch} {d b : Nat} {g : GG} {K : Ou → HP → Prop} {x1 : Int} {x2 : Int} {y3 : Int} {y4 : Int} {y5 : Int} (hb : 1 ≤ b) (hF : (wr (g 8 14) ≤ wr y5 → (wr x2 = 0 → K (.inl (vI y3)) (stt g)) ∧ (¬ (wr x2 = 0) → K (.inl (vI y4)) (stt g))) ∧ (¬ (wr (g 8 14) ≤ wr y5) → (¬ wr (cel g 16 ((y5 * 5) + 1)) = wr x1 → AW Γ l mX11_led (d + 1) b 13 [vR 1, vI x1, vI x2, vI y3, vI y4, vI (y5 + 1)] [] (stt g) K) ∧ (¬ (¬ wr (cel g 16 ((y5 * 5) + 1)) = wr x1) → AW Γ l mX11_led (d + 1) b 13 [vR 1, vI x1, vI x2, vI (y3 + 1), vI (cel g 16 (y5 * 5)), vI (y5 + 1)] [] (stt g) K))) : AW Γ l mX11_led (d + 1) b 13 [vR 1, vI x1, vI x2, vI y3, vI y4, vI y5] [] (stt g) K := by
  refine aw_iload (i := 5) (by decide +kernel) rfl ?_
  refine aw_aload_n (k' := 0) (by decide +kernel) rfl ?_
  refine gfX11_26 rfl (by decide +kernel) (OB.at (ci := 9) (show shp 1 = (19, 0) by decide +kernel) (by decide)) ?_
  refine AW.topR (show RC 1 2 = 8 by decide +kernel) ?_
  refine gfX11_395 rfl (by decide +kernel) (OB.at (ci := 2) (show shp 8 = (12, 0) by decide +kernel) (by decide)) ?_
  refine ax_icmp_ge (off := 48) (tgt := 70) (x' := wr y5) (y' := wr (g 8 14)) (by decide +kernel) (by decide) rfl rfl (fun hc => ?_) (fun hc => ?_)
  · have hF := hF.1 hc
    refine aw_iload_n (k' := 2) (by decide +kernel) rfl ?_
    refine ax_if_eq (off := 8) (tgt := 79) (x' := wr x2) (by decide +kernel) (by decide) rfl (fun hc => ?_) (fun hc => ?_)
    · have hF := hF.1 hc
      refine aw_iload_n (k' := 3) (by decide +kernel) rfl ?_
      exact aw_iret (by decide +kernel) rfl hF
    · have hF := hF.2 hc
      refine aw_iload (i := 4) (by decide +kernel) rfl ?_
      refine aw_goto (off := 4) (tgt := 80) (by decide +kernel) (by decide) ?_
      exact aw_iret (by decide +kernel) rfl hF
  · have hF := hF.2 hc
    refine aw_aload_n (k' := 0) (by decide +kernel) rfl ?_
    refine gfX11_26 rfl (by decide +kernel) (OB.at (ci := 9) (show shp 1 = (19, 0) by decide +kernel) (by decide)) ?_
    refine AW.topR (show RC 1 2 = 8 by decide +kernel) ?_
    refine gfX11_398 rfl (by decide +kernel) (OB.at (ci := 2) (show shp 8 = (12, 0) by decide +kernel) (by decide)) ?_
    refine AW.topR (show RC 8 7 = 16 by decide +kernel) ?_
    refine aw_iload (i := 5) (by decide +kernel) rfl ?_
    refine aw_iconst (n := 5) (by decide +kernel) ?_
    refine aw_imul (by decide +kernel) ?_
    refine aw_iconst (n := 1) (by decide +kernel) ?_
    refine aw_iadd (by decide +kernel) ?_
    refine aw_callS (y := yX11_cell) (M2 := mX11_cell) (as := [vR 16, vI ((y5 * 5) + 1)]) (S := []) (d2 := d) (b2 := 0) (b3 := b) cwX11_cell mlX11_168 stX11_cell (by decide +kernel) rfl (Nat.le_refl _) (Nat.le_of_eq (Nat.zero_add _)) rfl rfl (by simp [oneSlot]) (Nat.le_of_ble_eq_true rfl) (c_cell (show (shp 16).1 = 0 by decide +kernel) ?_)
    show AW Γ l mX11_led (d + 1) b 41 [vR 1, vI x1, vI x2, vI y3, vI y4, vI y5] [vI (cel g 16 ((y5 * 5) + 1))] (stt g) K
    refine aw_iload_n (k' := 1) (by decide +kernel) rfl ?_
    refine ax_icmp_ne (off := 22) (tgt := 64) (x' := wr (cel g 16 ((y5 * 5) + 1))) (y' := wr x1) (by decide +kernel) (by decide) rfl rfl (fun hc => ?_) (fun hc => ?_)
    · have hF := hF.1 hc
      refine aw_iinc (i := 5) (n := 1) (by decide +kernel) rfl (by decide) ?_
      show AW Γ l mX11_led (d + 1) b 67 [vR 1, vI x1, vI x2, vI y3, vI y4, vI (y5 + 1)] [] (stt g) K
      refine aw_goto (off := -54) (tgt := 13) (by decide +kernel) (by decide) ?_
      exact hF
    · have hF := hF.2 hc
      refine aw_iinc (i := 3) (n := 1) (by decide +kernel) rfl (by decide) ?_
      show AW Γ l mX11_led (d + 1) b 48 [vR 1, vI x1, vI x2, vI (y3 + 1), vI y4, vI y5] [] (stt g) K
      refine aw_aload_n (k' := 0) (by decide +kernel) rfl ?_
      refine gfX11_26 rfl (by decide +kernel) (OB.at (ci := 9) (show shp 1 = (19, 0) by decide +kernel) (by decide)) ?_
      refine AW.topR (show RC 1 2 = 8 by decide +kernel) ?_
      refine gfX11_398 rfl (by decide +kernel) (OB.at (ci := 2) (show shp 8 = (12, 0) by decide +kernel) (by decide)) ?_
      refine AW.topR (show RC 8 7 = 16 by decide +kernel) ?_
      refine aw_iload (i := 5) (by decide +kernel) rfl ?_
      refine aw_iconst (n := 5) (by decide +kernel) ?_
      refine aw_imul (by decide +kernel) ?_
      refine aw_callS (y := yX11_cell) (M2 := mX11_cell) (as := [vR 16, vI (y5 * 5)]) (S := []) (d2 := d) (b2 := 0) (b3 := b) cwX11_cell mlX11_168 stX11_cell (by decide +kernel) rfl (Nat.le_refl _) (Nat.le_of_eq (Nat.zero_add _)) rfl rfl (by simp [oneSlot]) (Nat.le_of_ble_eq_true rfl) (c_cell (show (shp 16).1 = 0 by decide +kernel) ?_)
      show AW Γ l mX11_led (d + 1) b 62 [vR 1, vI x1, vI x2, vI (y3 + 1), vI y4, vI y5] [vI (cel g 16 (y5 * 5))] (stt g) K
      refine aw_istore (i := 4) (by decide +kernel) (by decide) ?_
      show AW Γ l mX11_led (d + 1) b 64 [vR 1, vI x1, vI x2, vI (y3 + 1), vI (cel g 16 (y5 * 5)), vI y5] [] (stt g) K
      refine aw_iinc (i := 5) (n := 1) (by decide +kernel) rfl (by decide) ?_
      show AW Γ l mX11_led (d + 1) b 67 [vR 1, vI x1, vI x2, vI (y3 + 1), vI (cel g 16 (y5 * 5)), vI (y5 + 1)] [] (stt g) K
      refine aw_goto (off := -54) (tgt := 13) (by decide +kernel) (by decide) ?_
      exact hF

set_option maxHeartbeats 1000000 in
theorem wpX11_log {Γ : Cfg} {l : Launch} {d b : Nat} {g : GG} {K : Ou → HP → Prop} {x1 : Int} {x2 : Int} (hb : 1 ≤ b) (hF : (wr x2 < 0 → K (.inr "java/util/NoSuchElementException") (stt g)) ∧ (¬ (wr x2 < 0) → (wr x2 < 5 → (wr x1 < 0 → K (.inl (vI (-1))) (stt g)) ∧ (¬ (wr x1 < 0) → (wr x1 < wr (g 8 14) → K (.inl (vI (cel g 16 (((((g 8 14) - 1) - x1) * 5) + x2)))) (stt g)) ∧ (¬ (wr x1 < wr (g 8 14)) → K (.inl (vI (-1))) (stt g)))) ∧ (¬ (wr x2 < 5) → K (.inr "java/util/NoSuchElementException") (stt g)))) : Ct Γ l (d + 1) b yX11_log mX11_log [vR 1, vI x1, vI x2] (stt g) K := by
  refine Ct.enter (L := [vR 1, vI x1, vI x2]) rfl rfl rfl (by decide +kernel) (by simp [oneSlot]) (Nat.le_of_ble_eq_true rfl) rfl ?_
  refine aw_iload_n (k' := 2) (by decide +kernel) rfl ?_
  refine ax_if_lt (off := 8) (tgt := 9) (x' := wr x2) (by decide +kernel) (by decide) rfl (fun hc => ?_) (fun hc => ?_)
  · have hF := hF.1 hc
    exact thr208W (ix := 401) (i := 15) rfl (by decide) (by decide +kernel) (by decide +kernel) (by decide +kernel) (by decide +kernel) (by decide +kernel) (by decide +kernel) rfl (by omega) rfl (by simp [oneSlot]) (Nat.le_of_ble_eq_true rfl) hF
  · have hF := hF.2 hc
    refine aw_iload_n (k' := 2) (by decide +kernel) rfl ?_
    refine aw_iconst (n := 5) (by decide +kernel) ?_
    refine ax_icmp_lt (off := 14) (tgt := 20) (x' := wr x2) (y' := 5) (by decide +kernel) (by decide) rfl (by decide +kernel) (fun hc => ?_) (fun hc => ?_)
    · have hF := hF.1 hc
      refine aw_iload_n (k' := 1) (by decide +kernel) rfl ?_
      refine ax_if_lt (off := 14) (tgt := 35) (x' := wr x1) (by decide +kernel) (by decide) rfl (fun hc => ?_) (fun hc => ?_)
      · have hF := hF.1 hc
        refine aw_iconst (n := -1) (by decide +kernel) ?_
        exact aw_iret (by decide +kernel) rfl hF
      · have hF := hF.2 hc
        refine aw_iload_n (k' := 1) (by decide +kernel) rfl ?_
        refine aw_aload_n (k' := 0) (by decide +kernel) rfl ?_
        refine gfX11_26 rfl (by decide +kernel) (OB.at (ci := 9) (show shp 1 = (19, 0) by decide +kernel) (by decide)) ?_
        refine AW.topR (show RC 1 2 = 8 by decide +kernel) ?_
        refine gfX11_395 rfl (by decide +kernel) (OB.at (ci := 2) (show shp 8 = (12, 0) by decide +kernel) (by decide)) ?_
        refine ax_icmp_lt (off := 5) (tgt := 37) (x' := wr x1) (y' := wr (g 8 14)) (by decide +kernel) (by decide) rfl rfl (fun hc => ?_) (fun hc => ?_)
        · have hF := hF.1 hc
          refine aw_aload_n (k' := 0) (by decide +kernel) rfl ?_
          refine gfX11_26 rfl (by decide +kernel) (OB.at (ci := 9) (show shp 1 = (19, 0) by decide +kernel) (by decide)) ?_
          refine AW.topR (show RC 1 2 = 8 by decide +kernel) ?_
          refine gfX11_398 rfl (by decide +kernel) (OB.at (ci := 2) (show shp 8 = (12, 0) by decide +kernel) (by decide)) ?_
          refine AW.topR (show RC 8 7 = 16 by decide +kernel) ?_
          refine aw_aload_n (k' := 0) (by decide +kernel) rfl ?_
          refine gfX11_26 rfl (by decide +kernel) (OB.at (ci := 9) (show shp 1 = (19, 0) by decide +kernel) (by decide)) ?_
          refine AW.topR (show RC 1 2 = 8 by decide +kernel) ?_
          refine gfX11_395 rfl (by decide +kernel) (OB.at (ci := 2) (show shp 8 = (12, 0) by decide +kernel) (by decide)) ?_
          refine aw_iconst (n := 1) (by decide +kernel) ?_
          refine aw_isub (by decide +kernel) ?_
          refine aw_iload_n (k' := 1) (by decide +kernel) rfl ?_
          refine aw_isub (by decide +kernel) ?_
          refine aw_iconst (n := 5) (by decide +kernel) ?_
          refine aw_imul (by decide +kernel) ?_
          refine aw_iload_n (k' := 2) (by decide +kernel) rfl ?_
          refine aw_iadd (by decide +kernel) ?_
          refine aw_callS (y := yX11_cell) (M2 := mX11_cell) (as := [vR 16, vI (((((g 8 14) - 1) - x1) * 5) + x2)]) (S := []) (d2 := d) (b2 := 0) (b3 := b) cwX11_cell mlX11_168 stX11_cell (by decide +kernel) rfl (Nat.le_refl _) (Nat.le_of_eq (Nat.zero_add _)) rfl rfl (by simp [oneSlot]) (Nat.le_of_ble_eq_true rfl) (c_cell (show (shp 16).1 = 0 by decide +kernel) ?_)
          show AW Γ l mX11_log (d + 1) b 62 [vR 1, vI x1, vI x2] [vI (cel g 16 (((((g 8 14) - 1) - x1) * 5) + x2))] (stt g) K
          exact aw_iret (by decide +kernel) rfl hF
        · have hF := hF.2 hc
          refine aw_iconst (n := -1) (by decide +kernel) ?_
          exact aw_iret (by decide +kernel) rfl hF
    · have hF := hF.2 hc
      exact thr208W (ix := 401) (i := 15) rfl (by decide) (by decide +kernel) (by decide +kernel) (by decide +kernel) (by decide +kernel) (by decide +kernel) (by decide +kernel) rfl (by omega) rfl (by simp [oneSlot]) (Nat.le_of_ble_eq_true rfl) hF

set_option maxHeartbeats 1000000 in
theorem wpX11_seed {Γ : Cfg} {l : Launch} {d b : Nat} {g : GG} {K : Ou → HP → Prop} {x1 : Int} (hF : K (.inl (vI (g 8 13))) (stt (upd2 g 8 13 x1))) : Ct Γ l d b yX11_seed mX11_seed [vR 1, vI x1] (stt g) K := by
  refine Ct.enter (L := [vR 1, vI x1, vU]) rfl rfl rfl (by decide +kernel) (by simp [oneSlot]) (Nat.le_of_ble_eq_true rfl) rfl ?_
  refine aw_aload_n (k' := 0) (by decide +kernel) rfl ?_
  refine gfX11_26 rfl (by decide +kernel) (OB.at (ci := 9) (show shp 1 = (19, 0) by decide +kernel) (by decide)) ?_
  refine AW.topR (show RC 1 2 = 8 by decide +kernel) ?_
  refine gfX11_392 rfl (by decide +kernel) (OB.at (ci := 2) (show shp 8 = (12, 0) by decide +kernel) (by decide)) ?_
  refine aw_istore_n (k' := 2) (by decide +kernel) (by decide) ?_
  show AW Γ l mX11_seed d b 8 [vR 1, vI x1, vI (g 8 13)] [] (stt g) K
  refine aw_aload_n (k' := 0) (by decide +kernel) rfl ?_
  refine gfX11_26 rfl (by decide +kernel) (OB.at (ci := 9) (show shp 1 = (19, 0) by decide +kernel) (by decide)) ?_
  refine AW.topR (show RC 1 2 = 8 by decide +kernel) ?_
  refine aw_iload_n (k' := 1) (by decide +kernel) rfl ?_
  refine pfX11_392 rfl (by decide +kernel) (OB.at (ci := 2) (show shp 8 = (12, 0) by decide +kernel) (by decide)) ?_
  show AW Γ l mX11_seed d b 16 [vR 1, vI x1, vI (g 8 13)] [] (stt (upd2 g 8 13 x1)) K
  refine aw_iload_n (k' := 2) (by decide +kernel) rfl ?_
  exact aw_iret (by decide +kernel) rfl hF

set_option maxHeartbeats 1000000 in
theorem wpX11_undo {Γ : Cfg} {l : Launch} {d b : Nat} {g : GG} {K : Ou → HP → Prop}  (hF : (¬ wr (g 1 15) = 0 → Ct Γ l d 0 yX11_actAt mX11_actAt [vR 1, vI ((g 1 15) - 1)] (stt g) (bR (fun v1 g1 => (¬ v1 = 0 → Ct Γ l d 0 yX2_copy mX2_copy [vR 8, vR v1] (stt g1) (bV (fun g2 => K (.inl (vI 1)) (stt (upd2 g2 1 15 ((g2 1 15) - 1)))) K)) ∧ (v1 = 0 → K (.inl (vI 0)) (stt g1))) K)) ∧ (¬ (¬ wr (g 1 15) = 0) → K (.inl (vI 0)) (stt g))) : Ct Γ l (d + 1) b yX11_undo mX11_undo [vR 1] (stt g) K := by
  refine Ct.enter (L := [vR 1, vU]) rfl rfl rfl (by decide +kernel) (by simp [oneSlot]) (Nat.le_of_ble_eq_true rfl) rfl ?_
  refine aw_aload_n (k' := 0) (by decide +kernel) rfl ?_
  refine gfX11_93 rfl (by decide +kernel) (OB.at (ci := 9) (show shp 1 = (19, 0) by decide +kernel) (by decide)) ?_
  refine ax_if_ne (off := 5) (tgt := 9) (x' := wr (g 1 15)) (by decide +kernel) (by decide) rfl (fun hc => ?_) (fun hc => ?_)
  · have hF := hF.1 hc
    refine aw_aload_n (k' := 0) (by decide +kernel) rfl ?_
    refine aw_aload_n (k' := 0) (by decide +kernel) rfl ?_
    refine gfX11_93 rfl (by decide +kernel) (OB.at (ci := 9) (show shp 1 = (19, 0) by decide +kernel) (by decide)) ?_
    refine aw_iconst (n := 1) (by decide +kernel) ?_
    refine aw_isub (by decide +kernel) ?_
    refine aw_callV (y := yX11_actAt) (M2 := mX11_actAt) (as := [vI ((g 1 15) - 1)]) (S := []) (t := 1) (d2 := d) (b2 := 0) (b3 := b) cwX11_actAt mlX11_303 imX11_actAt seX11_actAt (by decide +kernel) rfl (ci := 9) rfl (OB.at (ci := 9) (show shp 1 = (19, 0) by decide +kernel) (by decide)) (Nat.le_refl _) (Nat.le_of_eq (Nat.zero_add _)) rfl rfl (by simp [oneSlot]) (Nat.le_of_ble_eq_true rfl) (Ct.mono hF ?_)
    rintro o h' (⟨v1, g1, rfl, rfl, hG⟩ | ⟨E, g, rfl, rfl, hG⟩)
    · show AW Γ l mX11_undo (d + 1) b 19 [vR 1, vU] [vR v1] (stt g1) K
      refine aw_astore_n (k' := 1) (by decide +kernel) (by decide) ?_
      show AW Γ l mX11_undo (d + 1) b 20 [vR 1, vR v1] [] (stt g1) K
      refine aw_aload_n (k' := 1) (by decide +kernel) rfl ?_
      refine aw_ifnonnull (off := 5) (tgt := 26) (by decide +kernel) (by decide) (fun hc => ?_) (fun hc => ?_)
      · have hG := hG.1 hc
        refine aw_aload_n (k' := 0) (by decide +kernel) rfl ?_
        refine gfX11_26 rfl (by decide +kernel) (OB.at (ci := 9) (show shp 1 = (19, 0) by decide +kernel) (by decide)) ?_
        refine AW.topR (show RC 1 2 = 8 by decide +kernel) ?_
        refine aw_aload_n (k' := 1) (by decide +kernel) rfl ?_
        refine aw_callV (y := yX2_copy) (M2 := mX2_copy) (as := [vR v1]) (S := []) (t := 8) (d2 := d) (b2 := 0) (b3 := b) cwX2_copy mlX11_113 imX2_copy seX2_copy (by decide +kernel) rfl (ci := 2) rfl (OB.at (ci := 2) (show shp 8 = (12, 0) by decide +kernel) (by decide)) (Nat.le_refl _) (Nat.le_of_eq (Nat.zero_add _)) rfl rfl (by simp [oneSlot]) (Nat.le_of_ble_eq_true rfl) (Ct.mono hG ?_)
        rintro o h' (⟨g2, rfl, rfl, hG⟩ | ⟨E, g, rfl, rfl, hG⟩)
        · show AW Γ l mX11_undo (d + 1) b 34 [vR 1, vR v1] [] (stt g2) K
          refine aw_aload_n (k' := 0) (by decide +kernel) rfl ?_
          refine aw_dup (by decide +kernel) trivial ?_
          refine gfX11_93 rfl (by decide +kernel) (OB.at (ci := 9) (show shp 1 = (19, 0) by decide +kernel) (by decide)) ?_
          refine aw_iconst (n := 1) (by decide +kernel) ?_
          refine aw_isub (by decide +kernel) ?_
          refine pfX11_93 rfl (by decide +kernel) (OB.at (ci := 9) (show shp 1 = (19, 0) by decide +kernel) (by decide)) ?_
          show AW Γ l mX11_undo (d + 1) b 44 [vR 1, vR v1] [] (stt (upd2 g2 1 15 ((g2 1 15) - 1))) K
          refine aw_iconst (n := 1) (by decide +kernel) ?_
          exact aw_zret (by decide +kernel) rfl rfl hG
        · exact hG
      · have hG := hG.2 hc
        refine aw_iconst (n := 0) (by decide +kernel) ?_
        exact aw_zret (by decide +kernel) rfl rfl hG
    · exact hG
  · have hF := hF.2 hc
    refine aw_iconst (n := 0) (by decide +kernel) ?_
    exact aw_zret (by decide +kernel) rfl rfl hF

set_option maxHeartbeats 1000000 in
theorem wpX11_image {Γ : Cfg} {l : Launch} {d b : Nat} {g : GG} {K : Ou → HP → Prop}  (hF : Ct Γ l d 0 yX2_copy mX2_copy [vR 26, vR 8] (stt g) (bV (fun g1 => Ct Γ l d 0 yX4_copy mX4_copy [vR 41, vR 35] (stt g1) (bV (fun g2 => K (.inl vU) (stt (upd2 g2 1 16 1))) K)) K)) : Ct Γ l (d + 1) b yX11_image mX11_image [vR 1] (stt g) K := by
  refine Ct.enter (L := [vR 1]) rfl rfl rfl (by decide +kernel) (by simp [oneSlot]) (Nat.le_of_ble_eq_true rfl) rfl ?_
  refine aw_aload_n (k' := 0) (by decide +kernel) rfl ?_
  refine gfX11_33 rfl (by decide +kernel) (OB.at (ci := 9) (show shp 1 = (19, 0) by decide +kernel) (by decide)) ?_
  refine AW.topR (show RC 1 4 = 26 by decide +kernel) ?_
  refine aw_aload_n (k' := 0) (by decide +kernel) rfl ?_
  refine gfX11_26 rfl (by decide +kernel) (OB.at (ci := 9) (show shp 1 = (19, 0) by decide +kernel) (by decide)) ?_
  refine AW.topR (show RC 1 2 = 8 by decide +kernel) ?_
  refine aw_callV (y := yX2_copy) (M2 := mX2_copy) (as := [vR 8]) (S := []) (t := 26) (d2 := d) (b2 := 0) (b3 := b) cwX2_copy mlX11_113 imX2_copy seX2_copy (by decide +kernel) rfl (ci := 2) rfl (OB.at (ci := 2) (show shp 26 = (12, 0) by decide +kernel) (by decide)) (Nat.le_refl _) (Nat.le_of_eq (Nat.zero_add _)) rfl rfl (by simp [oneSlot]) (Nat.le_of_ble_eq_true rfl) (Ct.mono hF ?_)
  rintro o h' (⟨g1, rfl, rfl, hG⟩ | ⟨E, g, rfl, rfl, hG⟩)
  · show AW Γ l mX11_image (d + 1) b 11 [vR 1] [] (stt g1) K
    refine aw_aload_n (k' := 0) (by decide +kernel) rfl ?_
    refine gfX11_46 rfl (by decide +kernel) (OB.at (ci := 9) (show shp 1 = (19, 0) by decide +kernel) (by decide)) ?_
    refine AW.topR (show RC 1 7 = 41 by decide +kernel) ?_
    refine aw_aload_n (k' := 0) (by decide +kernel) rfl ?_
    refine gfX11_39 rfl (by decide +kernel) (OB.at (ci := 9) (show shp 1 = (19, 0) by decide +kernel) (by decide)) ?_
    refine AW.topR (show RC 1 5 = 35 by decide +kernel) ?_
    refine aw_callV (y := yX4_copy) (M2 := mX4_copy) (as := [vR 35]) (S := []) (t := 41) (d2 := d) (b2 := 0) (b3 := b) cwX4_copy mlX11_146 imX4_copy seX4_copy (by decide +kernel) rfl (ci := 3) rfl (OB.at (ci := 3) (show shp 41 = (13, 0) by decide +kernel) (by decide)) (Nat.le_refl _) (Nat.le_of_eq (Nat.zero_add _)) rfl rfl (by simp [oneSlot]) (Nat.le_of_ble_eq_true rfl) (Ct.mono hG ?_)
    rintro o h' (⟨g2, rfl, rfl, hG⟩ | ⟨E, g, rfl, rfl, hG⟩)
    · show AW Γ l mX11_image (d + 1) b 22 [vR 1] [] (stt g2) K
      refine aw_aload_n (k' := 0) (by decide +kernel) rfl ?_
      refine aw_iconst (n := 1) (by decide +kernel) ?_
      refine pfX11_96 rfl (by decide +kernel) (OB.at (ci := 9) (show shp 1 = (19, 0) by decide +kernel) (by decide)) rfl rfl ?_
      show AW Γ l mX11_image (d + 1) b 27 [vR 1] [] (stt (upd2 g2 1 16 1)) K
      exact aw_vret (by decide +kernel) rfl hG
    · exact hG
  · exact hG

set_option maxHeartbeats 1000000 in
theorem wpX11_back {Γ : Cfg} {l : Launch} {d b : Nat} {g : GG} {K : Ou → HP → Prop}  (hF : (¬ wr (g 1 16) = 0 → Ct Γ l d 0 yX2_copy mX2_copy [vR 8, vR 26] (stt g) (bV (fun g1 => Ct Γ l d 0 yX4_copy mX4_copy [vR 35, vR 41] (stt g1) (bV (fun g2 => K (.inl (vI 1)) (stt (upd2 g2 1 15 0))) K)) K)) ∧ (¬ (¬ wr (g 1 16) = 0) → K (.inl (vI 0)) (stt g))) : Ct Γ l (d + 1) b yX11_back mX11_back [vR 1] (stt g) K := by
  refine Ct.enter (L := [vR 1]) rfl rfl rfl (by decide +kernel) (by simp [oneSlot]) (Nat.le_of_ble_eq_true rfl) rfl ?_
  refine aw_aload_n (k' := 0) (by decide +kernel) rfl ?_
  refine gfX11_96 rfl (by decide +kernel) (OB.at (ci := 9) (show shp 1 = (19, 0) by decide +kernel) (by decide)) ?_
  refine ax_if_ne (off := 5) (tgt := 9) (x' := wr (g 1 16)) (by decide +kernel) (by decide) rfl (fun hc => ?_) (fun hc => ?_)
  · have hF := hF.1 hc
    refine aw_aload_n (k' := 0) (by decide +kernel) rfl ?_
    refine gfX11_26 rfl (by decide +kernel) (OB.at (ci := 9) (show shp 1 = (19, 0) by decide +kernel) (by decide)) ?_
    refine AW.topR (show RC 1 2 = 8 by decide +kernel) ?_
    refine aw_aload_n (k' := 0) (by decide +kernel) rfl ?_
    refine gfX11_33 rfl (by decide +kernel) (OB.at (ci := 9) (show shp 1 = (19, 0) by decide +kernel) (by decide)) ?_
    refine AW.topR (show RC 1 4 = 26 by decide +kernel) ?_
    refine aw_callV (y := yX2_copy) (M2 := mX2_copy) (as := [vR 26]) (S := []) (t := 8) (d2 := d) (b2 := 0) (b3 := b) cwX2_copy mlX11_113 imX2_copy seX2_copy (by decide +kernel) rfl (ci := 2) rfl (OB.at (ci := 2) (show shp 8 = (12, 0) by decide +kernel) (by decide)) (Nat.le_refl _) (Nat.le_of_eq (Nat.zero_add _)) rfl rfl (by simp [oneSlot]) (Nat.le_of_ble_eq_true rfl) (Ct.mono hF ?_)
    rintro o h' (⟨g1, rfl, rfl, hG⟩ | ⟨E, g, rfl, rfl, hG⟩)
    · show AW Γ l mX11_back (d + 1) b 20 [vR 1] [] (stt g1) K
      refine aw_aload_n (k' := 0) (by decide +kernel) rfl ?_
      refine gfX11_39 rfl (by decide +kernel) (OB.at (ci := 9) (show shp 1 = (19, 0) by decide +kernel) (by decide)) ?_
      refine AW.topR (show RC 1 5 = 35 by decide +kernel) ?_
      refine aw_aload_n (k' := 0) (by decide +kernel) rfl ?_
      refine gfX11_46 rfl (by decide +kernel) (OB.at (ci := 9) (show shp 1 = (19, 0) by decide +kernel) (by decide)) ?_
      refine AW.topR (show RC 1 7 = 41 by decide +kernel) ?_
      refine aw_callV (y := yX4_copy) (M2 := mX4_copy) (as := [vR 41]) (S := []) (t := 35) (d2 := d) (b2 := 0) (b3 := b) cwX4_copy mlX11_146 imX4_copy seX4_copy (by decide +kernel) rfl (ci := 3) rfl (OB.at (ci := 3) (show shp 35 = (13, 0) by decide +kernel) (by decide)) (Nat.le_refl _) (Nat.le_of_eq (Nat.zero_add _)) rfl rfl (by simp [oneSlot]) (Nat.le_of_ble_eq_true rfl) (Ct.mono hG ?_)
      rintro o h' (⟨g2, rfl, rfl, hG⟩ | ⟨E, g, rfl, rfl, hG⟩)
      · show AW Γ l mX11_back (d + 1) b 31 [vR 1] [] (stt g2) K
        refine aw_aload_n (k' := 0) (by decide +kernel) rfl ?_
        refine aw_iconst (n := 0) (by decide +kernel) ?_
        refine pfX11_93 rfl (by decide +kernel) (OB.at (ci := 9) (show shp 1 = (19, 0) by decide +kernel) (by decide)) ?_
        show AW Γ l mX11_back (d + 1) b 36 [vR 1] [] (stt (upd2 g2 1 15 0)) K
        refine aw_iconst (n := 1) (by decide +kernel) ?_
        exact aw_zret (by decide +kernel) rfl rfl hG
      · exact hG
    · exact hG
  · have hF := hF.2 hc
    refine aw_iconst (n := 0) (by decide +kernel) ?_
    exact aw_zret (by decide +kernel) rfl rfl hF

set_option maxHeartbeats 1000000 in
theorem wpX11_count {Γ : Cfg} {l : Launch} {d b : Nat} {g : GG} {K : Ou → HP → Prop} {x1 : Int} (hF : (wr x1 = 0 → K (.inl (vI (g 8 8))) (stt g)) ∧ (wr x1 = 1 → K (.inl (vI (g 8 9))) (stt g)) ∧ (wr x1 = 2 → (wr (g 35 4) = 0 → K (.inl (vI (-1))) (stt g)) ∧ (¬ (wr (g 35 4) = 0) → K (.inl (vI (g 35 3))) (stt g))) ∧ (wr x1 = 3 → K (.inl (vI (g 8 10))) (stt g)) ∧ (wr x1 = 4 → K (.inl (vI (g 8 11))) (stt g)) ∧ (wr x1 = 5 → K (.inl (vI (g 8 12))) (stt g)) ∧ (wr x1 = 6 → Ct Γ l d 0 yX11_sumOf mX11_sumOf [vR 1, vR 10] (stt g) (bI (fun v1 g1 => K (.inl (vI v1)) (stt g1)) K)) ∧ (wr x1 = 7 → Ct Γ l d 0 yX11_sumOf mX11_sumOf [vR 1, vR 12] (stt g) (bI (fun v2 g2 => K (.inl (vI v2)) (stt g2)) K)) ∧ (wr x1 = 8 → K (.inl (vI (g 8 14))) (stt g)) ∧ (wr x1 = 9 → K (.inl (vI (g 1 15))) (stt g)) ∧ ((wr x1 < 0 ∨ 9 < wr x1) → K (.inl (vI (-1))) (stt g))) : Ct Γ l (d + 1) b yX11_count mX11_count [vR 1, vI x1] (stt g) K := by
  refine Ct.enter (L := [vR 1, vI x1]) rfl rfl rfl (by decide +kernel) (by simp [oneSlot]) (Nat.le_of_ble_eq_true rfl) rfl ?_
  refine aw_iload_n (k' := 1) (by decide +kernel) rfl ?_
  refine ax_tsw (dflt := 154) (lo := 0) (hi := 9) (offs := #[55, 63, 71, 93, 101, 109, 117, 129, 141, 149]) (len := 55) [56, 64, 72, 94, 102, 110, 118, 130, 142, 150] 155 (by decide +kernel) (by decide) (by decide) (by decide) (by decide) (fun i hi hc => ?_) (fun hc => ?_)
  · match i, hi, hc with
    | 0, _, hc =>
      have hF := hF.1 (by simpa using hc)
      show AW Γ l mX11_count (d + 1) b 56 [vR 1, vI x1] [] (stt g) K
      refine aw_aload_n (k' := 0) (by decide +kernel) rfl ?_
      refine gfX11_26 rfl (by decide +kernel) (OB.at (ci := 9) (show shp 1 = (19, 0) by decide +kernel) (by decide)) ?_
      refine AW.topR (show RC 1 2 = 8 by decide +kernel) ?_
      refine gfX11_253 rfl (by decide +kernel) (OB.at (ci := 2) (show shp 8 = (12, 0) by decide +kernel) (by decide)) ?_
      exact aw_iret (by decide +kernel) rfl hF
    | 1, _, hc =>
      have hF := hF.2.1 (by simpa using hc)
      show AW Γ l mX11_count (d + 1) b 64 [vR 1, vI x1] [] (stt g) K
      refine aw_aload_n (k' := 0) (by decide +kernel) rfl ?_
      refine gfX11_26 rfl (by decide +kernel) (OB.at (ci := 9) (show shp 1 = (19, 0) by decide +kernel) (by decide)) ?_
      refine AW.topR (show RC 1 2 = 8 by decide +kernel) ?_
      refine gfX11_133 rfl (by decide +kernel) (OB.at (ci := 2) (show shp 8 = (12, 0) by decide +kernel) (by decide)) ?_
      exact aw_iret (by decide +kernel) rfl hF
    | 2, _, hc =>
      have hF := hF.2.2.1 (by simpa using hc)
      show AW Γ l mX11_count (d + 1) b 72 [vR 1, vI x1] [] (stt g) K
      refine aw_aload_n (k' := 0) (by decide +kernel) rfl ?_
      refine gfX11_39 rfl (by decide +kernel) (OB.at (ci := 9) (show shp 1 = (19, 0) by decide +kernel) (by decide)) ?_
      refine AW.topR (show RC 1 5 = 35 by decide +kernel) ?_
      refine gfX11_403 rfl (by decide +kernel) (OB.at (ci := 3) (show shp 35 = (13, 0) by decide +kernel) (by decide)) ?_
      refine ax_if_eq (off := 13) (tgt := 92) (x' := wr (g 35 4)) (by decide +kernel) (by decide) rfl (fun hc => ?_) (fun hc => ?_)
      · have hF := hF.1 hc
        refine aw_iconst (n := -1) (by decide +kernel) ?_
        exact aw_iret (by decide +kernel) rfl hF
      · have hF := hF.2 hc
        refine aw_aload_n (k' := 0) (by decide +kernel) rfl ?_
        refine gfX11_39 rfl (by decide +kernel) (OB.at (ci := 9) (show shp 1 = (19, 0) by decide +kernel) (by decide)) ?_
        refine AW.topR (show RC 1 5 = 35 by decide +kernel) ?_
        refine gfX11_148 rfl (by decide +kernel) (OB.at (ci := 3) (show shp 35 = (13, 0) by decide +kernel) (by decide)) ?_
        refine aw_goto (off := 4) (tgt := 93) (by decide +kernel) (by decide) ?_
        exact aw_iret (by decide +kernel) rfl hF
    | 3, _, hc =>
      have hF := hF.2.2.2.1 (by simpa using hc)
      show AW Γ l mX11_count (d + 1) b 94 [vR 1, vI x1] [] (stt g) K
      refine aw_aload_n (k' := 0) (by decide +kernel) rfl ?_
      refine gfX11_26 rfl (by decide +kernel) (OB.at (ci := 9) (show shp 1 = (19, 0) by decide +kernel) (by decide)) ?_
      refine AW.topR (show RC 1 2 = 8 by decide +kernel) ?_
      refine gfX11_294 rfl (by decide +kernel) (OB.at (ci := 2) (show shp 8 = (12, 0) by decide +kernel) (by decide)) ?_
      exact aw_iret (by decide +kernel) rfl hF
    | 4, _, hc =>
      have hF := hF.2.2.2.2.1 (by simpa using hc)
      show AW Γ l mX11_count (d + 1) b 102 [vR 1, vI x1] [] (stt g) K
      refine aw_aload_n (k' := 0) (by decide +kernel) rfl ?_
      refine gfX11_26 rfl (by decide +kernel) (OB.at (ci := 9) (show shp 1 = (19, 0) by decide +kernel) (by decide)) ?_
      refine AW.topR (show RC 1 2 = 8 by decide +kernel) ?_
      refine gfX11_405 rfl (by decide +kernel) (OB.at (ci := 2) (show shp 8 = (12, 0) by decide +kernel) (by decide)) ?_
      exact aw_iret (by decide +kernel) rfl hF
    | 5, _, hc =>
      have hF := hF.2.2.2.2.2.1 (by simpa using hc)
      show AW Γ l mX11_count (d + 1) b 110 [vR 1, vI x1] [] (stt g) K
      refine aw_aload_n (k' := 0) (by decide +kernel) rfl ?_
      refine gfX11_26 rfl (by decide +kernel) (OB.at (ci := 9) (show shp 1 = (19, 0) by decide +kernel) (by decide)) ?_
      refine AW.topR (show RC 1 2 = 8 by decide +kernel) ?_
      refine gfX11_389 rfl (by decide +kernel) (OB.at (ci := 2) (show shp 8 = (12, 0) by decide +kernel) (by decide)) ?_
      exact aw_iret (by decide +kernel) rfl hF
    | 6, _, hc =>
      have hF := hF.2.2.2.2.2.2.1 (by simpa using hc)
      show AW Γ l mX11_count (d + 1) b 118 [vR 1, vI x1] [] (stt g) K
      refine aw_aload_n (k' := 0) (by decide +kernel) rfl ?_
      refine aw_aload_n (k' := 0) (by decide +kernel) rfl ?_
      refine gfX11_26 rfl (by decide +kernel) (OB.at (ci := 9) (show shp 1 = (19, 0) by decide +kernel) (by decide)) ?_
      refine AW.topR (show RC 1 2 = 8 by decide +kernel) ?_
      refine gfX11_165 rfl (by decide +kernel) (OB.at (ci := 2) (show shp 8 = (12, 0) by decide +kernel) (by decide)) ?_
      refine AW.topR (show RC 8 1 = 10 by decide +kernel) ?_
      refine aw_callV (y := yX11_sumOf) (M2 := mX11_sumOf) (as := [vR 10]) (S := []) (t := 1) (d2 := d) (b2 := 0) (b3 := b) cwX11_sumOf mlX11_408 imX11_sumOf seX11_sumOf (by decide +kernel) rfl (ci := 9) rfl (OB.at (ci := 9) (show shp 1 = (19, 0) by decide +kernel) (by decide)) (Nat.le_refl _) (Nat.le_of_eq (Nat.zero_add _)) rfl rfl (by simp [oneSlot]) (Nat.le_of_ble_eq_true rfl) (Ct.mono hF ?_)
      rintro o h' (⟨v1, g1, rfl, rfl, hG⟩ | ⟨E, g, rfl, rfl, hG⟩)
      · show AW Γ l mX11_count (d + 1) b 129 [vR 1, vI x1] [vI v1] (stt g1) K
        exact aw_iret (by decide +kernel) rfl hG
      · exact hG
    | 7, _, hc =>
      have hF := hF.2.2.2.2.2.2.2.1 (by simpa using hc)
      show AW Γ l mX11_count (d + 1) b 130 [vR 1, vI x1] [] (stt g) K
      refine aw_aload_n (k' := 0) (by decide +kernel) rfl ?_
      refine aw_aload_n (k' := 0) (by decide +kernel) rfl ?_
      refine gfX11_26 rfl (by decide +kernel) (OB.at (ci := 9) (show shp 1 = (19, 0) by decide +kernel) (by decide)) ?_
      refine AW.topR (show RC 1 2 = 8 by decide +kernel) ?_
      refine gfX11_175 rfl (by decide +kernel) (OB.at (ci := 2) (show shp 8 = (12, 0) by decide +kernel) (by decide)) ?_
      refine AW.topR (show RC 8 3 = 12 by decide +kernel) ?_
      refine aw_callV (y := yX11_sumOf) (M2 := mX11_sumOf) (as := [vR 12]) (S := []) (t := 1) (d2 := d) (b2 := 0) (b3 := b) cwX11_sumOf mlX11_408 imX11_sumOf seX11_sumOf (by decide +kernel) rfl (ci := 9) rfl (OB.at (ci := 9) (show shp 1 = (19, 0) by decide +kernel) (by decide)) (Nat.le_refl _) (Nat.le_of_eq (Nat.zero_add _)) rfl rfl (by simp [oneSlot]) (Nat.le_of_ble_eq_true rfl) (Ct.mono hF ?_)
      rintro o h' (⟨v2, g2, rfl, rfl, hG⟩ | ⟨E, g, rfl, rfl, hG⟩)
      · show AW Γ l mX11_count (d + 1) b 141 [vR 1, vI x1] [vI v2] (stt g2) K
        exact aw_iret (by decide +kernel) rfl hG
      · exact hG
    | 8, _, hc =>
      have hF := hF.2.2.2.2.2.2.2.2.1 (by simpa using hc)
      show AW Γ l mX11_count (d + 1) b 142 [vR 1, vI x1] [] (stt g) K
      refine aw_aload_n (k' := 0) (by decide +kernel) rfl ?_
      refine gfX11_26 rfl (by decide +kernel) (OB.at (ci := 9) (show shp 1 = (19, 0) by decide +kernel) (by decide)) ?_
      refine AW.topR (show RC 1 2 = 8 by decide +kernel) ?_
      refine gfX11_395 rfl (by decide +kernel) (OB.at (ci := 2) (show shp 8 = (12, 0) by decide +kernel) (by decide)) ?_
      exact aw_iret (by decide +kernel) rfl hF
    | 9, _, hc =>
      have hF := hF.2.2.2.2.2.2.2.2.2.1 (by simpa using hc)
      show AW Γ l mX11_count (d + 1) b 150 [vR 1, vI x1] [] (stt g) K
      refine aw_aload_n (k' := 0) (by decide +kernel) rfl ?_
      refine gfX11_93 rfl (by decide +kernel) (OB.at (ci := 9) (show shp 1 = (19, 0) by decide +kernel) (by decide)) ?_
      exact aw_iret (by decide +kernel) rfl hF
    | i + 10, hi, _ => exact absurd hi (by simp)
  · have hF := hF.2.2.2.2.2.2.2.2.2.2 hc
    refine aw_iconst (n := -1) (by decide +kernel) ?_
    exact aw_iret (by decide +kernel) rfl hF

set_option maxHeartbeats 1000000 in
theorem wpX11_sumOf {Γ : Cfg} {l : Launch} {d b : Nat} {g : GG} {K : Ou → HP → Prop} {r1 : Int} (hr1 : IA r1) (hF : AW Γ l mX11_sumOf (d + 1) b 4 [vR 1, vR r1, vI 0, vI 0] [] (stt g) K) : Ct Γ l (d + 1) b yX11_sumOf mX11_sumOf [vR 1, vR r1] (stt g) K := by
  refine Ct.enter (L := [vR 1, vR r1, vU, vU]) rfl rfl rfl (by decide +kernel) (by simp [oneSlot]) (Nat.le_of_ble_eq_true rfl) rfl ?_
  refine aw_iconst (n := 0) (by decide +kernel) ?_
  refine aw_istore_n (k' := 2) (by decide +kernel) (by decide) ?_
  show AW Γ l mX11_sumOf (d + 1) b 2 [vR 1, vR r1, vI 0, vU] [] (stt g) K
  refine aw_iconst (n := 0) (by decide +kernel) ?_
  refine aw_istore_n (k' := 3) (by decide +kernel) (by decide) ?_
  show AW Γ l mX11_sumOf (d + 1) b 4 [vR 1, vR r1, vI 0, vI 0] [] (stt g) K
  exact hF
set_option maxHeartbeats 1000000 in
theorem wpX11_sumOf_4 {Γ : Cfg} {l : Launch} {d b : Nat} {g : GG} {K : Ou → HP → Prop} {r1 : Int} (hr1 : IA r1) {y2 : Int} {y3 : Int} (hF : (wr (g 8 8) ≤ wr y3 → K (.inl (vI y2)) (stt g)) ∧ (¬ (wr (g 8 8) ≤ wr y3) → AW Γ l mX11_sumOf (d + 1) b 4 [vR 1, vR r1, vI (y2 + (cel g r1 y3)), vI (y3 + 1)] [] (stt g) K)) : AW Γ l mX11_sumOf (d + 1) b 4 [vR 1, vR r1, vI y2, vI y3] [] (stt g) K := by
  refine aw_iload_n (k' := 3) (by decide +kernel) rfl ?_
  refine aw_aload_n (k' := 0) (by decide +kernel) rfl ?_
  refine gfX11_26 rfl (by decide +kernel) (OB.at (ci := 9) (show shp 1 = (19, 0) by decide +kernel) (by decide)) ?_
  refine AW.topR (show RC 1 2 = 8 by decide +kernel) ?_
  refine gfX11_253 rfl (by decide +kernel) (OB.at (ci := 2) (show shp 8 = (12, 0) by decide +kernel) (by decide)) ?_
  refine ax_icmp_ge (off := 17) (tgt := 29) (x' := wr y3) (y' := wr (g 8 8)) (by decide +kernel) (by decide) rfl rfl (fun hc => ?_) (fun hc => ?_)
  · have hF := hF.1 hc
    refine aw_iload_n (k' := 2) (by decide +kernel) rfl ?_
    exact aw_iret (by decide +kernel) rfl hF
  · have hF := hF.2 hc
    refine aw_iload_n (k' := 2) (by decide +kernel) rfl ?_
    refine aw_aload_n (k' := 1) (by decide +kernel) rfl ?_
    refine aw_iload_n (k' := 3) (by decide +kernel) rfl ?_
    refine aw_callS (y := yX11_cell) (M2 := mX11_cell) (as := [vR r1, vI y3]) (S := [vI y2]) (d2 := d) (b2 := 0) (b3 := b) cwX11_cell mlX11_168 stX11_cell (by decide +kernel) rfl (Nat.le_refl _) (Nat.le_of_eq (Nat.zero_add _)) rfl rfl (by simp [oneSlot]) (Nat.le_of_ble_eq_true rfl) (c_cell hr1 ?_)
    show AW Γ l mX11_sumOf (d + 1) b 21 [vR 1, vR r1, vI y2, vI y3] [vI (cel g r1 y3), vI y2] (stt g) K
    refine aw_iadd (by decide +kernel) ?_
    refine aw_istore_n (k' := 2) (by decide +kernel) (by decide) ?_
    show AW Γ l mX11_sumOf (d + 1) b 23 [vR 1, vR r1, vI (y2 + (cel g r1 y3)), vI y3] [] (stt g) K
    refine aw_iinc (i := 3) (n := 1) (by decide +kernel) rfl (by decide) ?_
    show AW Γ l mX11_sumOf (d + 1) b 26 [vR 1, vR r1, vI (y2 + (cel g r1 y3)), vI (y3 + 1)] [] (stt g) K
    refine aw_goto (off := -22) (tgt := 4) (by decide +kernel) (by decide) ?_
    exact hF

