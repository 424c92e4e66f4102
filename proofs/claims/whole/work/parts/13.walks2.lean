/-! WALKS: the scales, the course, the law, orders and pairs -/
set_option maxHeartbeats 1000000 in
theorem wpX1_passHours {Γ : Cfg} {l : Launch} {d b : Nat} {g : GG} {K : Ou → HP → Prop} {t1 : Int} (ht1 : HI t1) {x2 : Int} (hF : AW Γ l mX1_passHours (d + 1) b 5 [vR 160, vR t1, vI x2, vI 0, vI 0, vU] [] (stt g) K) : Ct Γ l (d + 1) b yX1_passHours mX1_passHours [vR 160, vR t1, vI x2] (stt g) K := by
  refine Ct.enter (L := [vR 160, vR t1, vI x2, vU, vU, vU]) rfl rfl rfl (by decide +kernel) (by simp [oneSlot]) (Nat.le_of_ble_eq_true rfl) rfl ?_
  refine aw_iconst (n := 0) (by decide +kernel) ?_
  refine aw_istore_n (k' := 3) (by decide +kernel) (by decide) ?_
  show AW Γ l mX1_passHours (d + 1) b 2 [vR 160, vR t1, vI x2, vI 0, vU, vU] [] (stt g) K
  refine aw_iconst (n := 0) (by decide +kernel) ?_
  refine aw_istore (i := 4) (by decide +kernel) (by decide) ?_
  show AW Γ l mX1_passHours (d + 1) b 5 [vR 160, vR t1, vI x2, vI 0, vI 0, vU] [] (stt g) K
  exact hF
set_option maxHeartbeats 1000000 in
theorem wpX1_passHours_5 {Γ : Cfg} {l : Launch} {d b : Nat} {g : GG} {K : Ou → HP → Prop} {t1 : Int} (ht1 : HI t1) {x2 : Int} {y3 : Int} {y4 : Int} (hF : (wr x2 ≤ wr y4 → K (.inl (vI y3)) (stt g)) ∧ (¬ (wr x2 ≤ wr y4) → AW Γ l mX1_passHours (d + 1) b 14 [vR 160, vR t1, vI x2, vI y3, vI y4, vI 0] [] (stt g) K)) : AW Γ l mX1_passHours (d + 1) b 5 [vR 160, vR t1, vI x2, vI y3, vI y4, vU] [] (stt g) K := by
  refine aw_iload (i := 4) (by decide +kernel) rfl ?_
  refine aw_iload_n (k' := 2) (by decide +kernel) rfl ?_
  refine ax_icmp_ge (off := 84) (tgt := 92) (x' := wr y4) (y' := wr x2) (by decide +kernel) (by decide) rfl rfl (fun hc => ?_) (fun hc => ?_)
  · have hF := hF.1 hc
    refine aw_iload_n (k' := 3) (by decide +kernel) rfl ?_
    exact aw_iret (by decide +kernel) rfl hF
  · have hF := hF.2 hc
    refine aw_iconst (n := 0) (by decide +kernel) ?_
    refine aw_istore (i := 5) (by decide +kernel) (by decide) ?_
    show AW Γ l mX1_passHours (d + 1) b 14 [vR 160, vR t1, vI x2, vI y3, vI y4, vI 0] [] (stt g) K
    exact hF
set_option maxHeartbeats 1000000 in
theorem wpX1_passHours_14 {Γ : Cfg} {l : Launch} {d b : Nat} {g : GG} {K : Ou → HP → Prop} {t1 : Int} (ht1 : HI t1) {x2 : Int} {y3 : Int} {y4 : Int} {y5 : Int} (hF : (wr (g t1 8) ≤ wr y5 → (∀ g1 : GG, g1 = upd2 g t1 11 (iMin 9999 ((g t1 11) + 1)) → AW Γ l mX1_passHours (d + 1) b 5 [vR 160, vR t1, vI x2, vI y3, vI (y4 + 1), vI y5] [] (stt g1) K)) ∧ (¬ (wr (g t1 8) ≤ wr y5) → (¬ wr (cel g (t1 + 1 + 4) y5) = 1 → AW Γ l mX1_passHours (d + 1) b 14 [vR 160, vR t1, vI x2, vI y3, vI y4, vI (y5 + 1)] [] (stt g) K) ∧ (¬ (¬ wr (cel g (t1 + 1 + 4) y5) = 1) → Ct Γ l d 0 yX1_speakOn mX1_speakOn [vR 160, vR t1, vI y5] (stt g) (bV (fun g2 => (¬ wr (cel g2 (t1 + 1 + 4) y5) = 2 → AW Γ l mX1_passHours (d + 1) b 14 [vR 160, vR t1, vI x2, vI (y3 + 0), vI y4, vI (y5 + 1)] [] (stt g2) K) ∧ (¬ (¬ wr (cel g2 (t1 + 1 + 4) y5) = 2) → AW Γ l mX1_passHours (d + 1) b 14 [vR 160, vR t1, vI x2, vI (y3 + 1), vI y4, vI (y5 + 1)] [] (stt g2) K)) K)))) : AW Γ l mX1_passHours (d + 1) b 14 [vR 160, vR t1, vI x2, vI y3, vI y4, vI y5] [] (stt g) K := by
  refine aw_iload (i := 5) (by decide +kernel) rfl ?_
  refine aw_aload_n (k' := 1) (by decide +kernel) rfl ?_
  refine gfX1_15 rfl (by decide +kernel) (OB.at ht1.ob (by decide)) ?_
  refine ax_icmp_ge (off := 50) (tgt := 70) (x' := wr y5) (y' := wr (g t1 8)) (by decide +kernel) (by decide) rfl rfl (fun hc => ?_) (fun hc => ?_)
  · have hF := hF.1 hc
    refine aw_aload_n (k' := 1) (by decide +kernel) rfl ?_
    refine aw_sipush (n := 9999) (by decide +kernel) (by decide +kernel) ?_
    refine aw_aload_n (k' := 1) (by decide +kernel) rfl ?_
    refine gfX1_33 rfl (by decide +kernel) (OB.at ht1.ob (by decide)) ?_
    refine aw_iconst (n := 1) (by decide +kernel) ?_
    refine aw_iadd (by decide +kernel) ?_
    refine aw_mmin (by decide +kernel) mlX1_36 stJ9_min_7cf53 cwM_init cwM_min (by simp [oneSlot]) (Nat.le_of_ble_eq_true rfl) ?_
    refine pfX1_33 rfl (by decide +kernel) (OB.at ht1.ob (by decide)) ?_
    show AW Γ l mX1_passHours (d + 1) b 86 [vR 160, vR t1, vI x2, vI y3, vI y4, vI y5] [] (stt (upd2 g t1 11 (iMin 9999 ((g t1 11) + 1)))) K
    generalize eg1 : upd2 g t1 11 (iMin 9999 ((g t1 11) + 1)) = g1
    replace hF := hF g1 eg1.symm
    refine aw_iinc (i := 4) (n := 1) (by decide +kernel) rfl (by decide) ?_
    show AW Γ l mX1_passHours (d + 1) b 89 [vR 160, vR t1, vI x2, vI y3, vI (y4 + 1), vI y5] [] (stt g1) K
    refine aw_goto (off := -84) (tgt := 5) (by decide +kernel) (by decide) ?_
    exact hF
  · have hF := hF.2 hc
    refine aw_aload_n (k' := 1) (by decide +kernel) rfl ?_
    refine gfX1_21 rfl (by decide +kernel) (OB.at ht1.ob (by decide)) ?_
    refine AW.topR (ht1.r4) ?_
    refine aw_iload (i := 5) (by decide +kernel) rfl ?_
    refine aw_callSN (host := "HalfOaths") (y := yX11_cell) (M2 := mX11_cell) (as := [vR (t1 + 1 + 4), vI y5]) (S := []) (d2 := d) (b2 := 0) (b3 := b) cwX11_cell mlX1_25 stX11_cell (by decide +kernel) rfl (Nat.le_refl _) (Nat.le_of_eq (Nat.zero_add _)) rfl rfl (by simp [oneSlot]) (Nat.le_of_ble_eq_true rfl) (c_cell (ht1.a4) ?_)
    show AW Γ l mX1_passHours (d + 1) b 32 [vR 160, vR t1, vI x2, vI y3, vI y4, vI y5] [vI (cel g (t1 + 1 + 4) y5)] (stt g) K
    refine aw_iconst (n := 1) (by decide +kernel) ?_
    refine ax_icmp_ne (off := 31) (tgt := 64) (x' := wr (cel g (t1 + 1 + 4) y5)) (y' := 1) (by decide +kernel) (by decide) rfl (by decide +kernel) (fun hc => ?_) (fun hc => ?_)
    · have hF := hF.1 hc
      refine aw_iinc (i := 5) (n := 1) (by decide +kernel) rfl (by decide) ?_
      show AW Γ l mX1_passHours (d + 1) b 67 [vR 160, vR t1, vI x2, vI y3, vI y4, vI (y5 + 1)] [] (stt g) K
      refine aw_goto (off := -53) (tgt := 14) (by decide +kernel) (by decide) ?_
      exact hF
    · have hF := hF.2 hc
      refine aw_aload_n (k' := 0) (by decide +kernel) rfl ?_
      refine aw_aload_n (k' := 1) (by decide +kernel) rfl ?_
      refine aw_iload (i := 5) (by decide +kernel) rfl ?_
      refine aw_callV (y := yX1_speakOn) (M2 := mX1_speakOn) (as := [vR t1, vI y5]) (S := []) (t := 160) (d2 := d) (b2 := 0) (b3 := b) cwX1_speakOn mlX1_29 imX1_speakOn seX1_speakOn (by decide +kernel) rfl (ci := 1) rfl (OB.at (ci := 1) (show shp 160 = (11, 0) by decide +kernel) (by decide)) (Nat.le_refl _) (Nat.le_of_eq (Nat.zero_add _)) rfl rfl (by simp [oneSlot]) (Nat.le_of_ble_eq_true rfl) (Ct.mono hF ?_)
      rintro o h' (⟨g2, rfl, rfl, hG⟩ | ⟨E, g, rfl, rfl, hG⟩)
      · show AW Γ l mX1_passHours (d + 1) b 43 [vR 160, vR t1, vI x2, vI y3, vI y4, vI y5] [] (stt g2) K
        refine aw_iload_n (k' := 3) (by decide +kernel) rfl ?_
        refine aw_aload_n (k' := 1) (by decide +kernel) rfl ?_
        refine gfX1_21 rfl (by decide +kernel) (OB.at ht1.ob (by decide)) ?_
        refine AW.topR (ht1.r4) ?_
        refine aw_iload (i := 5) (by decide +kernel) rfl ?_
        refine aw_callSN (host := "HalfOaths") (y := yX11_cell) (M2 := mX11_cell) (as := [vR (t1 + 1 + 4), vI y5]) (S := [vI y3]) (d2 := d) (b2 := 0) (b3 := b) cwX11_cell mlX1_25 stX11_cell (by decide +kernel) rfl (Nat.le_refl _) (Nat.le_of_eq (Nat.zero_add _)) rfl rfl (by simp [oneSlot]) (Nat.le_of_ble_eq_true rfl) (c_cell (ht1.a4) ?_)
        show AW Γ l mX1_passHours (d + 1) b 53 [vR 160, vR t1, vI x2, vI y3, vI y4, vI y5] [vI (cel g2 (t1 + 1 + 4) y5), vI y3] (stt g2) K
        refine aw_iconst (n := 2) (by decide +kernel) ?_
        refine ax_icmp_ne (off := 7) (tgt := 61) (x' := wr (cel g2 (t1 + 1 + 4) y5)) (y' := 2) (by decide +kernel) (by decide) rfl (by decide +kernel) (fun hc => ?_) (fun hc => ?_)
        · have hG := hG.1 hc
          refine aw_iconst (n := 0) (by decide +kernel) ?_
          refine aw_iadd (by decide +kernel) ?_
          refine aw_istore_n (k' := 3) (by decide +kernel) (by decide) ?_
          show AW Γ l mX1_passHours (d + 1) b 64 [vR 160, vR t1, vI x2, vI (y3 + 0), vI y4, vI y5] [] (stt g2) K
          refine aw_iinc (i := 5) (n := 1) (by decide +kernel) rfl (by decide) ?_
          show AW Γ l mX1_passHours (d + 1) b 67 [vR 160, vR t1, vI x2, vI (y3 + 0), vI y4, vI (y5 + 1)] [] (stt g2) K
          refine aw_goto (off := -53) (tgt := 14) (by decide +kernel) (by decide) ?_
          exact hG
        · have hG := hG.2 hc
          refine aw_iconst (n := 1) (by decide +kernel) ?_
          refine aw_goto (off := 4) (tgt := 62) (by decide +kernel) (by decide) ?_
          refine aw_iadd (by decide +kernel) ?_
          refine aw_istore_n (k' := 3) (by decide +kernel) (by decide) ?_
          show AW Γ l mX1_passHours (d + 1) b 64 [vR 160, vR t1, vI x2, vI (y3 + 1), vI y4, vI y5] [] (stt g2) K
          refine aw_iinc (i := 5) (n := 1) (by decide +kernel) rfl (by decide) ?_
          show AW Γ l mX1_passHours (d + 1) b 67 [vR 160, vR t1, vI x2, vI (y3 + 1), vI y4, vI (y5 + 1)] [] (stt g2) K
          refine aw_goto (off := -53) (tgt := 14) (by decide +kernel) (by decide) ?_
          exact hG
      · exact hG

set_option maxHeartbeats 1000000 in
theorem wpX1_speakOn {Γ : Cfg} {l : Launch} {d b : Nat} {g : GG} {K : Ou → HP → Prop} {t1 : Int} (ht1 : HI t1) {x2 : Int} (hF : Ct Γ l d 0 yX2_draw mX2_draw [vR t1] (stt g) (bI (fun v1 g1 => (wr ((g1 t1 10) - (10 * (cel g1 (t1 + 1 + 3) x2))) ≤ wr (iRem v1 100) → AW Γ l mX1_speakOn (d + 1) b 39 [vR 160, vR t1, vI x2, vU] [] (stt g1) K) ∧ (¬ (wr ((g1 t1 10) - (10 * (cel g1 (t1 + 1 + 3) x2))) ≤ wr (iRem v1 100)) → Ct Γ l d 0 yX2_draw mX2_draw [vR t1] (stt g1) (bI (fun v2 g2 => Ct Γ l d 0 yX1_breakIn mX1_breakIn [vR 160, vR t1, vI x2, vI (iRem v2 5)] (stt g2) (bI (fun v3 g3 => AW Γ l mX1_speakOn (d + 1) b 39 [vR 160, vR t1, vI x2, vU] [] (stt g3) K) K)) K))) K)) : Ct Γ l (d + 1) b yX1_speakOn mX1_speakOn [vR 160, vR t1, vI x2] (stt g) K := by
  refine Ct.enter (L := [vR 160, vR t1, vI x2, vU]) rfl rfl rfl (by decide +kernel) (by simp [oneSlot]) (Nat.le_of_ble_eq_true rfl) rfl ?_
  refine aw_aload_n (k' := 1) (by decide +kernel) rfl ?_
  refine aw_callV (y := yX2_draw) (M2 := mX2_draw) (as := []) (S := []) (t := t1) (d2 := d) (b2 := 0) (b3 := b) cwX2_draw mlX1_42 imX2_draw seX2_draw (by decide +kernel) rfl (ci := 2) rfl (OB.at ht1.ob (by decide)) (Nat.le_refl _) (Nat.le_of_eq (Nat.zero_add _)) rfl rfl (by simp [oneSlot]) (Nat.le_of_ble_eq_true rfl) (Ct.mono hF ?_)
  rintro o h' (⟨v1, g1, rfl, rfl, hG⟩ | ⟨E, g, rfl, rfl, hG⟩)
  · show AW Γ l mX1_speakOn (d + 1) b 4 [vR 160, vR t1, vI x2, vU] [vI v1] (stt g1) K
    refine aw_bipush (n := 100) (by decide +kernel) (by decide +kernel) ?_
    refine aw_irem (by decide +kernel) (by decide +kernel) ?_
    refine aw_aload_n (k' := 1) (by decide +kernel) rfl ?_
    refine gfX1_46 rfl (by decide +kernel) (OB.at ht1.ob (by decide)) ?_
    refine aw_bipush (n := 10) (by decide +kernel) (by decide +kernel) ?_
    refine aw_aload_n (k' := 1) (by decide +kernel) rfl ?_
    refine gfX1_49 rfl (by decide +kernel) (OB.at ht1.ob (by decide)) ?_
    refine AW.topR (ht1.r3) ?_
    refine aw_iload_n (k' := 2) (by decide +kernel) rfl ?_
    refine aw_callSN (host := "HalfOaths") (y := yX11_cell) (M2 := mX11_cell) (as := [vR (t1 + 1 + 3), vI x2]) (S := [vI 10, vI (g1 t1 10), vI (iRem v1 100)]) (d2 := d) (b2 := 0) (b3 := b) cwX11_cell mlX1_25 stX11_cell (by decide +kernel) rfl (Nat.le_refl _) (Nat.le_of_eq (Nat.zero_add _)) rfl rfl (by simp [oneSlot]) (Nat.le_of_ble_eq_true rfl) (c_cell (ht1.a3) ?_)
    show AW Γ l mX1_speakOn (d + 1) b 21 [vR 160, vR t1, vI x2, vU] [vI (cel g1 (t1 + 1 + 3) x2), vI 10, vI (g1 t1 10), vI (iRem v1 100)] (stt g1) K
    refine aw_imul (by decide +kernel) ?_
    refine aw_isub (by decide +kernel) ?_
    refine ax_icmp_ge (off := 16) (tgt := 39) (x' := wr (iRem v1 100)) (y' := wr ((g1 t1 10) - (10 * (cel g1 (t1 + 1 + 3) x2)))) (by decide +kernel) (by decide) rfl rfl (fun hc => ?_) (fun hc => ?_)
    · have hG := hG.1 hc
      exact hG
    · have hG := hG.2 hc
      refine aw_aload_n (k' := 0) (by decide +kernel) rfl ?_
      refine aw_aload_n (k' := 1) (by decide +kernel) rfl ?_
      refine aw_iload_n (k' := 2) (by decide +kernel) rfl ?_
      refine aw_aload_n (k' := 1) (by decide +kernel) rfl ?_
      refine aw_callV (y := yX2_draw) (M2 := mX2_draw) (as := []) (S := [vI x2, vR t1, vR 160]) (t := t1) (d2 := d) (b2 := 0) (b3 := b) cwX2_draw mlX1_42 imX2_draw seX2_draw (by decide +kernel) rfl (ci := 2) rfl (OB.at ht1.ob (by decide)) (Nat.le_refl _) (Nat.le_of_eq (Nat.zero_add _)) rfl rfl (by simp [oneSlot]) (Nat.le_of_ble_eq_true rfl) (Ct.mono hG ?_)
      rintro o h' (⟨v2, g2, rfl, rfl, hG⟩ | ⟨E, g, rfl, rfl, hG⟩)
      · show AW Γ l mX1_speakOn (d + 1) b 33 [vR 160, vR t1, vI x2, vU] [vI v2, vI x2, vR t1, vR 160] (stt g2) K
        refine aw_iconst (n := 5) (by decide +kernel) ?_
        refine aw_irem (by decide +kernel) (by decide +kernel) ?_
        refine aw_callV (y := yX1_breakIn) (M2 := mX1_breakIn) (as := [vR t1, vI x2, vI (iRem v2 5)]) (S := []) (t := 160) (d2 := d) (b2 := 0) (b3 := b) cwX1_breakIn mlX1_52 imX1_breakIn seX1_breakIn (by decide +kernel) rfl (ci := 1) rfl (OB.at (ci := 1) (show shp 160 = (11, 0) by decide +kernel) (by decide)) (Nat.le_refl _) (Nat.le_of_eq (Nat.zero_add _)) rfl rfl (by simp [oneSlot]) (Nat.le_of_ble_eq_true rfl) (Ct.mono hG ?_)
        rintro o h' (⟨v3, g3, rfl, rfl, hG⟩ | ⟨E, g, rfl, rfl, hG⟩)
        · show AW Γ l mX1_speakOn (d + 1) b 38 [vR 160, vR t1, vI x2, vU] [vI v3] (stt g3) K
          refine aw_pop (by decide +kernel) trivial ?_
          exact hG
        · exact hG
      · exact hG
  · exact hG
set_option maxHeartbeats 1000000 in
theorem wpX1_speakOn_39 {Γ : Cfg} {l : Launch} {d b : Nat} {g : GG} {K : Ou → HP → Prop} {t1 : Int} (ht1 : HI t1) {x2 : Int} (hF : (¬ wr (cel g (t1 + 1 + 4) x2) = 1 → (¬ wr (cel g (t1 + 1 + 4) x2) = 2 → K (.inl vU) (stt g)) ∧ (¬ (¬ wr (cel g (t1 + 1 + 4) x2) = 2) → (∀ g1 : GG, g1 = upd2 g t1 12 (iMin 9999 ((g t1 12) + (cel g 156 7))) → K (.inl vU) (stt g1)))) ∧ (¬ (¬ wr (cel g (t1 + 1 + 4) x2) = 1) → (wr ((cel g (t1 + 1 + 5) x2) + (cel g (t1 + 1 + 2) x2)) < wr (cel g (t1 + 1 + 1) x2) → (∀ g2 : GG, g2 = puc g (t1 + 1 + 5) x2 ((cel g (t1 + 1 + 5) x2) + (cel g (t1 + 1 + 2) x2)) → (¬ wr (cel g2 (t1 + 1 + 4) x2) = 2 → K (.inl vU) (stt g2)) ∧ (¬ (¬ wr (cel g2 (t1 + 1 + 4) x2) = 2) → (∀ g3 : GG, g3 = upd2 g2 t1 12 (iMin 9999 ((g2 t1 12) + (cel g2 156 7))) → K (.inl vU) (stt g3))))) ∧ (¬ (wr ((cel g (t1 + 1 + 5) x2) + (cel g (t1 + 1 + 2) x2)) < wr (cel g (t1 + 1 + 1) x2)) → Ct Γ l d 0 yX1_letFinish mX1_letFinish [vR 160, vR t1, vI x2] (stt g) (bI (fun v1 g4 => (¬ wr (cel g4 (t1 + 1 + 4) x2) = 2 → K (.inl vU) (stt g4)) ∧ (¬ (¬ wr (cel g4 (t1 + 1 + 4) x2) = 2) → (∀ g5 : GG, g5 = upd2 g4 t1 12 (iMin 9999 ((g4 t1 12) + (cel g4 156 7))) → K (.inl vU) (stt g5)))) K)))) : AW Γ l mX1_speakOn (d + 1) b 39 [vR 160, vR t1, vI x2, vU] [] (stt g) K := by
  refine aw_aload_n (k' := 1) (by decide +kernel) rfl ?_
  refine gfX1_21 rfl (by decide +kernel) (OB.at ht1.ob (by decide)) ?_
  refine AW.topR (ht1.r4) ?_
  refine aw_iload_n (k' := 2) (by decide +kernel) rfl ?_
  refine aw_callSN (host := "HalfOaths") (y := yX11_cell) (M2 := mX11_cell) (as := [vR (t1 + 1 + 4), vI x2]) (S := []) (d2 := d) (b2 := 0) (b3 := b) cwX11_cell mlX1_25 stX11_cell (by decide +kernel) rfl (Nat.le_refl _) (Nat.le_of_eq (Nat.zero_add _)) rfl rfl (by simp [oneSlot]) (Nat.le_of_ble_eq_true rfl) (c_cell (ht1.a4) ?_)
  show AW Γ l mX1_speakOn (d + 1) b 47 [vR 160, vR t1, vI x2, vU] [vI (cel g (t1 + 1 + 4) x2)] (stt g) K
  refine aw_iconst (n := 1) (by decide +kernel) ?_
  refine ax_icmp_ne (off := 52) (tgt := 100) (x' := wr (cel g (t1 + 1 + 4) x2)) (y' := 1) (by decide +kernel) (by decide) rfl (by decide +kernel) (fun hc => ?_) (fun hc => ?_)
  · have hF := hF.1 hc
    refine aw_aload_n (k' := 1) (by decide +kernel) rfl ?_
    refine gfX1_21 rfl (by decide +kernel) (OB.at ht1.ob (by decide)) ?_
    refine AW.topR (ht1.r4) ?_
    refine aw_iload_n (k' := 2) (by decide +kernel) rfl ?_
    refine aw_callSN (host := "HalfOaths") (y := yX11_cell) (M2 := mX11_cell) (as := [vR (t1 + 1 + 4), vI x2]) (S := []) (d2 := d) (b2 := 0) (b3 := b) cwX11_cell mlX1_25 stX11_cell (by decide +kernel) rfl (Nat.le_refl _) (Nat.le_of_eq (Nat.zero_add _)) rfl rfl (by simp [oneSlot]) (Nat.le_of_ble_eq_true rfl) (c_cell (ht1.a4) ?_)
    show AW Γ l mX1_speakOn (d + 1) b 108 [vR 160, vR t1, vI x2, vU] [vI (cel g (t1 + 1 + 4) x2)] (stt g) K
    refine aw_iconst (n := 2) (by decide +kernel) ?_
    refine ax_icmp_ne (off := 30) (tgt := 139) (x' := wr (cel g (t1 + 1 + 4) x2)) (y' := 2) (by decide +kernel) (by decide) rfl (by decide +kernel) (fun hc => ?_) (fun hc => ?_)
    · have hF := hF.1 hc
      exact aw_vret (by decide +kernel) rfl hF
    · have hF := hF.2 hc
      refine aw_aload_n (k' := 1) (by decide +kernel) rfl ?_
      refine aw_sipush (n := 9999) (by decide +kernel) (by decide +kernel) ?_
      refine aw_aload_n (k' := 1) (by decide +kernel) rfl ?_
      refine gfX1_73 rfl (by decide +kernel) (OB.at ht1.ob (by decide)) ?_
      refine aw_aload_n (k' := 0) (by decide +kernel) rfl ?_
      refine gfX1_9 rfl (by decide +kernel) (OB.at (ci := 1) (show shp 160 = (11, 0) by decide +kernel) (by decide)) ?_
      refine AW.topR (show RC 160 0 = 153 by decide +kernel) ?_
      refine gfX1_76 rfl (by decide +kernel) (OB.at (ci := 6) (show shp 153 = (16, 0) by decide +kernel) (by decide)) ?_
      refine AW.topR (show RC 153 3 = 156 by decide +kernel) ?_
      refine aw_bipush (n := 7) (by decide +kernel) (by decide +kernel) ?_
      refine aw_callSN (host := "HalfOaths") (y := yX11_cell) (M2 := mX11_cell) (as := [vR 156, vI 7]) (S := [vI (g t1 12), vI 9999, vR t1]) (d2 := d) (b2 := 0) (b3 := b) cwX11_cell mlX1_25 stX11_cell (by decide +kernel) rfl (Nat.le_refl _) (Nat.le_of_eq (Nat.zero_add _)) rfl rfl (by simp [oneSlot]) (Nat.le_of_ble_eq_true rfl) (c_cell (show (shp 156).1 = 0 by decide +kernel) ?_)
      show AW Γ l mX1_speakOn (d + 1) b 132 [vR 160, vR t1, vI x2, vU] [vI (cel g 156 7), vI (g t1 12), vI 9999, vR t1] (stt g) K
      refine aw_iadd (by decide +kernel) ?_
      refine aw_mmin (by decide +kernel) mlX1_36 stJ9_min_7cf53 cwM_init cwM_min (by simp [oneSlot]) (Nat.le_of_ble_eq_true rfl) ?_
      refine pfX1_73 rfl (by decide +kernel) (OB.at ht1.ob (by decide)) ?_
      show AW Γ l mX1_speakOn (d + 1) b 139 [vR 160, vR t1, vI x2, vU] [] (stt (upd2 g t1 12 (iMin 9999 ((g t1 12) + (cel g 156 7))))) K
      generalize eg1 : upd2 g t1 12 (iMin 9999 ((g t1 12) + (cel g 156 7))) = g1
      replace hF := hF g1 eg1.symm
      exact aw_vret (by decide +kernel) rfl hF
  · have hF := hF.2 hc
    refine aw_aload_n (k' := 1) (by decide +kernel) rfl ?_
    refine gfX1_56 rfl (by decide +kernel) (OB.at ht1.ob (by decide)) ?_
    refine AW.topR (ht1.r5) ?_
    refine aw_iload_n (k' := 2) (by decide +kernel) rfl ?_
    refine aw_callSN (host := "HalfOaths") (y := yX11_cell) (M2 := mX11_cell) (as := [vR (t1 + 1 + 5), vI x2]) (S := []) (d2 := d) (b2 := 0) (b3 := b) cwX11_cell mlX1_25 stX11_cell (by decide +kernel) rfl (Nat.le_refl _) (Nat.le_of_eq (Nat.zero_add _)) rfl rfl (by simp [oneSlot]) (Nat.le_of_ble_eq_true rfl) (c_cell (ht1.a5) ?_)
    show AW Γ l mX1_speakOn (d + 1) b 59 [vR 160, vR t1, vI x2, vU] [vI (cel g (t1 + 1 + 5) x2)] (stt g) K
    refine aw_aload_n (k' := 1) (by decide +kernel) rfl ?_
    refine gfX1_59 rfl (by decide +kernel) (OB.at ht1.ob (by decide)) ?_
    refine AW.topR (ht1.r2) ?_
    refine aw_iload_n (k' := 2) (by decide +kernel) rfl ?_
    refine aw_callSN (host := "HalfOaths") (y := yX11_cell) (M2 := mX11_cell) (as := [vR (t1 + 1 + 2), vI x2]) (S := [vI (cel g (t1 + 1 + 5) x2)]) (d2 := d) (b2 := 0) (b3 := b) cwX11_cell mlX1_25 stX11_cell (by decide +kernel) rfl (Nat.le_refl _) (Nat.le_of_eq (Nat.zero_add _)) rfl rfl (by simp [oneSlot]) (Nat.le_of_ble_eq_true rfl) (c_cell (ht1.a2) ?_)
    show AW Γ l mX1_speakOn (d + 1) b 67 [vR 160, vR t1, vI x2, vU] [vI (cel g (t1 + 1 + 2) x2), vI (cel g (t1 + 1 + 5) x2)] (stt g) K
    refine aw_iadd (by decide +kernel) ?_
    refine aw_istore_n (k' := 3) (by decide +kernel) (by decide) ?_
    show AW Γ l mX1_speakOn (d + 1) b 69 [vR 160, vR t1, vI x2, vI ((cel g (t1 + 1 + 5) x2) + (cel g (t1 + 1 + 2) x2))] [] (stt g) K
    refine aw_iload_n (k' := 3) (by decide +kernel) rfl ?_
    refine aw_aload_n (k' := 1) (by decide +kernel) rfl ?_
    refine gfX1_62 rfl (by decide +kernel) (OB.at ht1.ob (by decide)) ?_
    refine AW.topR (ht1.r1) ?_
    refine aw_iload_n (k' := 2) (by decide +kernel) rfl ?_
    refine aw_callSN (host := "HalfOaths") (y := yX11_cell) (M2 := mX11_cell) (as := [vR (t1 + 1 + 1), vI x2]) (S := [vI ((cel g (t1 + 1 + 5) x2) + (cel g (t1 + 1 + 2) x2))]) (d2 := d) (b2 := 0) (b3 := b) cwX11_cell mlX1_25 stX11_cell (by decide +kernel) rfl (Nat.le_refl _) (Nat.le_of_eq (Nat.zero_add _)) rfl rfl (by simp [oneSlot]) (Nat.le_of_ble_eq_true rfl) (c_cell (ht1.a1) ?_)
    show AW Γ l mX1_speakOn (d + 1) b 78 [vR 160, vR t1, vI x2, vI ((cel g (t1 + 1 + 5) x2) + (cel g (t1 + 1 + 2) x2))] [vI (cel g (t1 + 1 + 1) x2), vI ((cel g (t1 + 1 + 5) x2) + (cel g (t1 + 1 + 2) x2))] (stt g) K
    refine ax_icmp_lt (off := 13) (tgt := 91) (x' := wr ((cel g (t1 + 1 + 5) x2) + (cel g (t1 + 1 + 2) x2))) (y' := wr (cel g (t1 + 1 + 1) x2)) (by decide +kernel) (by decide) rfl rfl (fun hc => ?_) (fun hc => ?_)
    · have hF := hF.1 hc
      refine aw_aload_n (k' := 1) (by decide +kernel) rfl ?_
      refine gfX1_56 rfl (by decide +kernel) (OB.at ht1.ob (by decide)) ?_
      refine AW.topR (ht1.r5) ?_
      refine aw_iload_n (k' := 2) (by decide +kernel) rfl ?_
      refine aw_iload_n (k' := 3) (by decide +kernel) rfl ?_
      refine aw_callSN (host := "HalfOaths") (y := yX11_put) (M2 := mX11_put) (as := [vR (t1 + 1 + 5), vI x2, vI ((cel g (t1 + 1 + 5) x2) + (cel g (t1 + 1 + 2) x2))]) (S := []) (d2 := d) (b2 := 0) (b3 := b) cwX11_put mlX1_69 stX11_put (by decide +kernel) rfl (Nat.le_refl _) (Nat.le_of_eq (Nat.zero_add _)) rfl rfl (by simp [oneSlot]) (Nat.le_of_ble_eq_true rfl) (c_put (ht1.a5) ?_)
      show AW Γ l mX1_speakOn (d + 1) b 100 [vR 160, vR t1, vI x2, vI ((cel g (t1 + 1 + 5) x2) + (cel g (t1 + 1 + 2) x2))] [] (stt (puc g (t1 + 1 + 5) x2 ((cel g (t1 + 1 + 5) x2) + (cel g (t1 + 1 + 2) x2)))) K
      show AW Γ l mX1_speakOn (d + 1) b 100 [vR 160, vR t1, vI x2, vI ((cel g (t1 + 1 + 5) x2) + (cel g (t1 + 1 + 2) x2))] [] (stt (puc g (t1 + 1 + 5) x2 ((cel g (t1 + 1 + 5) x2) + (cel g (t1 + 1 + 2) x2)))) K
      generalize eg2 : puc g (t1 + 1 + 5) x2 ((cel g (t1 + 1 + 5) x2) + (cel g (t1 + 1 + 2) x2)) = g2
      replace hF := hF g2 eg2.symm
      refine aw_aload_n (k' := 1) (by decide +kernel) rfl ?_
      refine gfX1_21 rfl (by decide +kernel) (OB.at ht1.ob (by decide)) ?_
      refine AW.topR (ht1.r4) ?_
      refine aw_iload_n (k' := 2) (by decide +kernel) rfl ?_
      refine aw_callSN (host := "HalfOaths") (y := yX11_cell) (M2 := mX11_cell) (as := [vR (t1 + 1 + 4), vI x2]) (S := []) (d2 := d) (b2 := 0) (b3 := b) cwX11_cell mlX1_25 stX11_cell (by decide +kernel) rfl (Nat.le_refl _) (Nat.le_of_eq (Nat.zero_add _)) rfl rfl (by simp [oneSlot]) (Nat.le_of_ble_eq_true rfl) (c_cell (ht1.a4) ?_)
      show AW Γ l mX1_speakOn (d + 1) b 108 [vR 160, vR t1, vI x2, vI ((cel g (t1 + 1 + 5) x2) + (cel g (t1 + 1 + 2) x2))] [vI (cel g2 (t1 + 1 + 4) x2)] (stt g2) K
      refine aw_iconst (n := 2) (by decide +kernel) ?_
      refine ax_icmp_ne (off := 30) (tgt := 139) (x' := wr (cel g2 (t1 + 1 + 4) x2)) (y' := 2) (by decide +kernel) (by decide) rfl (by decide +kernel) (fun hc => ?_) (fun hc => ?_)
      · have hF := hF.1 hc
        exact aw_vret (by decide +kernel) rfl hF
      · have hF := hF.2 hc
        refine aw_aload_n (k' := 1) (by decide +kernel) rfl ?_
        refine aw_sipush (n := 9999) (by decide +kernel) (by decide +kernel) ?_
        refine aw_aload_n (k' := 1) (by decide +kernel) rfl ?_
        refine gfX1_73 rfl (by decide +kernel) (OB.at ht1.ob (by decide)) ?_
        refine aw_aload_n (k' := 0) (by decide +kernel) rfl ?_
        refine gfX1_9 rfl (by decide +kernel) (OB.at (ci := 1) (show shp 160 = (11, 0) by decide +kernel) (by decide)) ?_
        refine AW.topR (show RC 160 0 = 153 by decide +kernel) ?_
        refine gfX1_76 rfl (by decide +kernel) (OB.at (ci := 6) (show shp 153 = (16, 0) by decide +kernel) (by decide)) ?_
        refine AW.topR (show RC 153 3 = 156 by decide +kernel) ?_
        refine aw_bipush (n := 7) (by decide +kernel) (by decide +kernel) ?_
        refine aw_callSN (host := "HalfOaths") (y := yX11_cell) (M2 := mX11_cell) (as := [vR 156, vI 7]) (S := [vI (g2 t1 12), vI 9999, vR t1]) (d2 := d) (b2 := 0) (b3 := b) cwX11_cell mlX1_25 stX11_cell (by decide +kernel) rfl (Nat.le_refl _) (Nat.le_of_eq (Nat.zero_add _)) rfl rfl (by simp [oneSlot]) (Nat.le_of_ble_eq_true rfl) (c_cell (show (shp 156).1 = 0 by decide +kernel) ?_)
        show AW Γ l mX1_speakOn (d + 1) b 132 [vR 160, vR t1, vI x2, vI ((cel g (t1 + 1 + 5) x2) + (cel g (t1 + 1 + 2) x2))] [vI (cel g2 156 7), vI (g2 t1 12), vI 9999, vR t1] (stt g2) K
        refine aw_iadd (by decide +kernel) ?_
        refine aw_mmin (by decide +kernel) mlX1_36 stJ9_min_7cf53 cwM_init cwM_min (by simp [oneSlot]) (Nat.le_of_ble_eq_true rfl) ?_
        refine pfX1_73 rfl (by decide +kernel) (OB.at ht1.ob (by decide)) ?_
        show AW Γ l mX1_speakOn (d + 1) b 139 [vR 160, vR t1, vI x2, vI ((cel g (t1 + 1 + 5) x2) + (cel g (t1 + 1 + 2) x2))] [] (stt (upd2 g2 t1 12 (iMin 9999 ((g2 t1 12) + (cel g2 156 7))))) K
        generalize eg3 : upd2 g2 t1 12 (iMin 9999 ((g2 t1 12) + (cel g2 156 7))) = g3
        replace hF := hF g3 eg3.symm
        exact aw_vret (by decide +kernel) rfl hF
    · have hF := hF.2 hc
      refine aw_aload_n (k' := 0) (by decide +kernel) rfl ?_
      refine aw_aload_n (k' := 1) (by decide +kernel) rfl ?_
      refine aw_iload_n (k' := 2) (by decide +kernel) rfl ?_
      refine aw_callV (y := yX1_letFinish) (M2 := mX1_letFinish) (as := [vR t1, vI x2]) (S := []) (t := 160) (d2 := d) (b2 := 0) (b3 := b) cwX1_letFinish mlX1_65 imX1_letFinish seX1_letFinish (by decide +kernel) rfl (ci := 1) rfl (OB.at (ci := 1) (show shp 160 = (11, 0) by decide +kernel) (by decide)) (Nat.le_refl _) (Nat.le_of_eq (Nat.zero_add _)) rfl rfl (by simp [oneSlot]) (Nat.le_of_ble_eq_true rfl) (Ct.mono hF ?_)
      rintro o h' (⟨v1, g4, rfl, rfl, hG⟩ | ⟨E, g, rfl, rfl, hG⟩)
      · show AW Γ l mX1_speakOn (d + 1) b 87 [vR 160, vR t1, vI x2, vI ((cel g (t1 + 1 + 5) x2) + (cel g (t1 + 1 + 2) x2))] [vI v1] (stt g4) K
        refine aw_pop (by decide +kernel) trivial ?_
        refine aw_goto (off := 12) (tgt := 100) (by decide +kernel) (by decide) ?_
        refine aw_aload_n (k' := 1) (by decide +kernel) rfl ?_
        refine gfX1_21 rfl (by decide +kernel) (OB.at ht1.ob (by decide)) ?_
        refine AW.topR (ht1.r4) ?_
        refine aw_iload_n (k' := 2) (by decide +kernel) rfl ?_
        refine aw_callSN (host := "HalfOaths") (y := yX11_cell) (M2 := mX11_cell) (as := [vR (t1 + 1 + 4), vI x2]) (S := []) (d2 := d) (b2 := 0) (b3 := b) cwX11_cell mlX1_25 stX11_cell (by decide +kernel) rfl (Nat.le_refl _) (Nat.le_of_eq (Nat.zero_add _)) rfl rfl (by simp [oneSlot]) (Nat.le_of_ble_eq_true rfl) (c_cell (ht1.a4) ?_)
        show AW Γ l mX1_speakOn (d + 1) b 108 [vR 160, vR t1, vI x2, vI ((cel g (t1 + 1 + 5) x2) + (cel g (t1 + 1 + 2) x2))] [vI (cel g4 (t1 + 1 + 4) x2)] (stt g4) K
        refine aw_iconst (n := 2) (by decide +kernel) ?_
        refine ax_icmp_ne (off := 30) (tgt := 139) (x' := wr (cel g4 (t1 + 1 + 4) x2)) (y' := 2) (by decide +kernel) (by decide) rfl (by decide +kernel) (fun hc => ?_) (fun hc => ?_)
        · have hG := hG.1 hc
          exact aw_vret (by decide +kernel) rfl hG
        · have hG := hG.2 hc
          refine aw_aload_n (k' := 1) (by decide +kernel) rfl ?_
          refine aw_sipush (n := 9999) (by decide +kernel) (by decide +kernel) ?_
          refine aw_aload_n (k' := 1) (by decide +kernel) rfl ?_
          refine gfX1_73 rfl (by decide +kernel) (OB.at ht1.ob (by decide)) ?_
          refine aw_aload_n (k' := 0) (by decide +kernel) rfl ?_
          refine gfX1_9 rfl (by decide +kernel) (OB.at (ci := 1) (show shp 160 = (11, 0) by decide +kernel) (by decide)) ?_
          refine AW.topR (show RC 160 0 = 153 by decide +kernel) ?_
          refine gfX1_76 rfl (by decide +kernel) (OB.at (ci := 6) (show shp 153 = (16, 0) by decide +kernel) (by decide)) ?_
          refine AW.topR (show RC 153 3 = 156 by decide +kernel) ?_
          refine aw_bipush (n := 7) (by decide +kernel) (by decide +kernel) ?_
          refine aw_callSN (host := "HalfOaths") (y := yX11_cell) (M2 := mX11_cell) (as := [vR 156, vI 7]) (S := [vI (g4 t1 12), vI 9999, vR t1]) (d2 := d) (b2 := 0) (b3 := b) cwX11_cell mlX1_25 stX11_cell (by decide +kernel) rfl (Nat.le_refl _) (Nat.le_of_eq (Nat.zero_add _)) rfl rfl (by simp [oneSlot]) (Nat.le_of_ble_eq_true rfl) (c_cell (show (shp 156).1 = 0 by decide +kernel) ?_)
          show AW Γ l mX1_speakOn (d + 1) b 132 [vR 160, vR t1, vI x2, vI ((cel g (t1 + 1 + 5) x2) + (cel g (t1 + 1 + 2) x2))] [vI (cel g4 156 7), vI (g4 t1 12), vI 9999, vR t1] (stt g4) K
          refine aw_iadd (by decide +kernel) ?_
          refine aw_mmin (by decide +kernel) mlX1_36 stJ9_min_7cf53 cwM_init cwM_min (by simp [oneSlot]) (Nat.le_of_ble_eq_true rfl) ?_
          refine pfX1_73 rfl (by decide +kernel) (OB.at ht1.ob (by decide)) ?_
          show AW Γ l mX1_speakOn (d + 1) b 139 [vR 160, vR t1, vI x2, vI ((cel g (t1 + 1 + 5) x2) + (cel g (t1 + 1 + 2) x2))] [] (stt (upd2 g4 t1 12 (iMin 9999 ((g4 t1 12) + (cel g4 156 7))))) K
          generalize eg5 : upd2 g4 t1 12 (iMin 9999 ((g4 t1 12) + (cel g4 156 7))) = g5
          replace hG := hG g5 eg5.symm
          exact aw_vret (by decide +kernel) rfl hG
      · exact hG

set_option maxHeartbeats 1000000 in
theorem wpX1_breakIn {Γ : Cfg} {l : Launch} {d b : Nat} {g : GG} {K : Ou → HP → Prop} {t1 : Int} (ht1 : HI t1) {x2 : Int} {x3 : Int} (hF : (¬ wr x3 = 1 → Ct Γ l d 0 yX1_countBehind mX1_countBehind [vR t1, vI x2, vI x3, vI (cel g (t1 + 1 + 5) x2)] (stt g) (bI (fun v1 g1 => Ct Γ l d 0 yX2_settle mX2_settle [vR t1, vI x2, vI 2, vI v1] (stt g1) (bV (fun g2 => Ct Γ l d 0 yX7_weight mX7_weight [vR 153, vR t1, vI x2, vI v1] (stt g2) (bI (fun v2 g3 => Ct Γ l d 0 yX2_note mX2_note [vR t1, vI x2, vI x3, vI v1, vI v2] (stt g3) (bV (fun g4 => K (.inl (vI v1)) (stt g4)) K)) K)) K)) K)) ∧ (¬ (¬ wr x3 = 1) → Ct Γ l d 0 yX7_weight mX7_weight [vR 153, vR t1, vI x2, vI (cel g (t1 + 1 + 5) x2)] (stt g) (bI (fun v3 g5 => Ct Γ l d 0 yX2_note mX2_note [vR t1, vI x2, vI 1, vI (cel g (t1 + 1 + 5) x2), vI v3] (stt g5) (bV (fun g6 => K (.inl (vI (-1))) (stt g6)) K)) K))) : Ct Γ l (d + 1) b yX1_breakIn mX1_breakIn [vR 160, vR t1, vI x2, vI x3] (stt g) K := by
  refine Ct.enter (L := [vR 160, vR t1, vI x2, vI x3, vU, vU]) rfl rfl rfl (by decide +kernel) (by simp [oneSlot]) (Nat.le_of_ble_eq_true rfl) rfl ?_
  refine aw_aload_n (k' := 1) (by decide +kernel) rfl ?_
  refine gfX1_56 rfl (by decide +kernel) (OB.at ht1.ob (by decide)) ?_
  refine AW.topR (ht1.r5) ?_
  refine aw_iload_n (k' := 2) (by decide +kernel) rfl ?_
  refine aw_callSN (host := "HalfOaths") (y := yX11_cell) (M2 := mX11_cell) (as := [vR (t1 + 1 + 5), vI x2]) (S := []) (d2 := d) (b2 := 0) (b3 := b) cwX11_cell mlX1_25 stX11_cell (by decide +kernel) rfl (Nat.le_refl _) (Nat.le_of_eq (Nat.zero_add _)) rfl rfl (by simp [oneSlot]) (Nat.le_of_ble_eq_true rfl) (c_cell (ht1.a5) ?_)
  show AW Γ l mX1_breakIn (d + 1) b 8 [vR 160, vR t1, vI x2, vI x3, vU, vU] [vI (cel g (t1 + 1 + 5) x2)] (stt g) K
  refine aw_istore (i := 4) (by decide +kernel) (by decide) ?_
  show AW Γ l mX1_breakIn (d + 1) b 10 [vR 160, vR t1, vI x2, vI x3, vI (cel g (t1 + 1 + 5) x2), vU] [] (stt g) K
  refine aw_iload_n (k' := 3) (by decide +kernel) rfl ?_
  refine aw_iconst (n := 1) (by decide +kernel) ?_
  refine ax_icmp_ne (off := 24) (tgt := 36) (x' := wr x3) (y' := 1) (by decide +kernel) (by decide) rfl (by decide +kernel) (fun hc => ?_) (fun hc => ?_)
  · have hF := hF.1 hc
    refine aw_aload_n (k' := 1) (by decide +kernel) rfl ?_
    refine aw_iload_n (k' := 2) (by decide +kernel) rfl ?_
    refine aw_iload_n (k' := 3) (by decide +kernel) rfl ?_
    refine aw_iload (i := 4) (by decide +kernel) rfl ?_
    refine aw_callS (y := yX1_countBehind) (M2 := mX1_countBehind) (as := [vR t1, vI x2, vI x3, vI (cel g (t1 + 1 + 5) x2)]) (S := []) (d2 := d) (b2 := 0) (b3 := b) cwX1_countBehind mlX1_88 stX1_countBehind (by decide +kernel) rfl (Nat.le_refl _) (Nat.le_of_eq (Nat.zero_add _)) rfl rfl (by simp [oneSlot]) (Nat.le_of_ble_eq_true rfl) (Ct.mono hF ?_)
    rintro o h' (⟨v1, g1, rfl, rfl, hG⟩ | ⟨E, g, rfl, rfl, hG⟩)
    · show AW Γ l mX1_breakIn (d + 1) b 44 [vR 160, vR t1, vI x2, vI x3, vI (cel g (t1 + 1 + 5) x2), vU] [vI v1] (stt g1) K
      refine aw_istore (i := 5) (by decide +kernel) (by decide) ?_
      show AW Γ l mX1_breakIn (d + 1) b 46 [vR 160, vR t1, vI x2, vI x3, vI (cel g (t1 + 1 + 5) x2), vI v1] [] (stt g1) K
      refine aw_aload_n (k' := 1) (by decide +kernel) rfl ?_
      refine aw_iload_n (k' := 2) (by decide +kernel) rfl ?_
      refine aw_iconst (n := 2) (by decide +kernel) ?_
      refine aw_iload (i := 5) (by decide +kernel) rfl ?_
      refine aw_callV (y := yX2_settle) (M2 := mX2_settle) (as := [vI x2, vI 2, vI v1]) (S := []) (t := t1) (d2 := d) (b2 := 0) (b3 := b) cwX2_settle mlX1_92 imX2_settle seX2_settle (by decide +kernel) rfl (ci := 2) rfl (OB.at ht1.ob (by decide)) (Nat.le_refl _) (Nat.le_of_eq (Nat.zero_add _)) rfl rfl (by simp [oneSlot]) (Nat.le_of_ble_eq_true rfl) (Ct.mono hG ?_)
      rintro o h' (⟨g2, rfl, rfl, hG⟩ | ⟨E, g, rfl, rfl, hG⟩)
      · show AW Γ l mX1_breakIn (d + 1) b 54 [vR 160, vR t1, vI x2, vI x3, vI (cel g (t1 + 1 + 5) x2), vI v1] [] (stt g2) K
        refine aw_aload_n (k' := 1) (by decide +kernel) rfl ?_
        refine aw_iload_n (k' := 2) (by decide +kernel) rfl ?_
        refine aw_iload_n (k' := 3) (by decide +kernel) rfl ?_
        refine aw_iload (i := 5) (by decide +kernel) rfl ?_
        refine aw_aload_n (k' := 0) (by decide +kernel) rfl ?_
        refine gfX1_9 rfl (by decide +kernel) (OB.at (ci := 1) (show shp 160 = (11, 0) by decide +kernel) (by decide)) ?_
        refine AW.topR (show RC 160 0 = 153 by decide +kernel) ?_
        refine aw_aload_n (k' := 1) (by decide +kernel) rfl ?_
        refine aw_iload_n (k' := 2) (by decide +kernel) rfl ?_
        refine aw_iload (i := 5) (by decide +kernel) rfl ?_
        refine aw_callV (y := yX7_weight) (M2 := mX7_weight) (as := [vR t1, vI x2, vI v1]) (S := [vI v1, vI x3, vI x2, vR t1]) (t := 153) (d2 := d) (b2 := 0) (b3 := b) cwX7_weight mlX1_81 imX7_weight seX7_weight (by decide +kernel) rfl (ci := 6) rfl (OB.at (ci := 6) (show shp 153 = (16, 0) by decide +kernel) (by decide)) (Nat.le_refl _) (Nat.le_of_eq (Nat.zero_add _)) rfl rfl (by simp [oneSlot]) (Nat.le_of_ble_eq_true rfl) (Ct.mono hG ?_)
        rintro o h' (⟨v2, g3, rfl, rfl, hG⟩ | ⟨E, g, rfl, rfl, hG⟩)
        · show AW Γ l mX1_breakIn (d + 1) b 70 [vR 160, vR t1, vI x2, vI x3, vI (cel g (t1 + 1 + 5) x2), vI v1] [vI v2, vI v1, vI x3, vI x2, vR t1] (stt g3) K
          refine aw_callV (y := yX2_note) (M2 := mX2_note) (as := [vI x2, vI x3, vI v1, vI v2]) (S := []) (t := t1) (d2 := d) (b2 := 0) (b3 := b) cwX2_note mlX1_84 imX2_note seX2_note (by decide +kernel) rfl (ci := 2) rfl (OB.at ht1.ob (by decide)) (Nat.le_refl _) (Nat.le_of_eq (Nat.zero_add _)) rfl rfl (by simp [oneSlot]) (Nat.le_of_ble_eq_true rfl) (Ct.mono hG ?_)
          rintro o h' (⟨g4, rfl, rfl, hG⟩ | ⟨E, g, rfl, rfl, hG⟩)
          · show AW Γ l mX1_breakIn (d + 1) b 73 [vR 160, vR t1, vI x2, vI x3, vI (cel g (t1 + 1 + 5) x2), vI v1] [] (stt g4) K
            refine aw_iload (i := 5) (by decide +kernel) rfl ?_
            exact aw_iret (by decide +kernel) rfl hG
          · exact hG
        · exact hG
      · exact hG
    · exact hG
  · have hF := hF.2 hc
    refine aw_aload_n (k' := 1) (by decide +kernel) rfl ?_
    refine aw_iload_n (k' := 2) (by decide +kernel) rfl ?_
    refine aw_iconst (n := 1) (by decide +kernel) ?_
    refine aw_iload (i := 4) (by decide +kernel) rfl ?_
    refine aw_aload_n (k' := 0) (by decide +kernel) rfl ?_
    refine gfX1_9 rfl (by decide +kernel) (OB.at (ci := 1) (show shp 160 = (11, 0) by decide +kernel) (by decide)) ?_
    refine AW.topR (show RC 160 0 = 153 by decide +kernel) ?_
    refine aw_aload_n (k' := 1) (by decide +kernel) rfl ?_
    refine aw_iload_n (k' := 2) (by decide +kernel) rfl ?_
    refine aw_iload (i := 4) (by decide +kernel) rfl ?_
    refine aw_callV (y := yX7_weight) (M2 := mX7_weight) (as := [vR t1, vI x2, vI (cel g (t1 + 1 + 5) x2)]) (S := [vI (cel g (t1 + 1 + 5) x2), vI 1, vI x2, vR t1]) (t := 153) (d2 := d) (b2 := 0) (b3 := b) cwX7_weight mlX1_81 imX7_weight seX7_weight (by decide +kernel) rfl (ci := 6) rfl (OB.at (ci := 6) (show shp 153 = (16, 0) by decide +kernel) (by decide)) (Nat.le_refl _) (Nat.le_of_eq (Nat.zero_add _)) rfl rfl (by simp [oneSlot]) (Nat.le_of_ble_eq_true rfl) (Ct.mono hF ?_)
    rintro o h' (⟨v3, g5, rfl, rfl, hG⟩ | ⟨E, g, rfl, rfl, hG⟩)
    · show AW Γ l mX1_breakIn (d + 1) b 31 [vR 160, vR t1, vI x2, vI x3, vI (cel g (t1 + 1 + 5) x2), vU] [vI v3, vI (cel g (t1 + 1 + 5) x2), vI 1, vI x2, vR t1] (stt g5) K
      refine aw_callV (y := yX2_note) (M2 := mX2_note) (as := [vI x2, vI 1, vI (cel g (t1 + 1 + 5) x2), vI v3]) (S := []) (t := t1) (d2 := d) (b2 := 0) (b3 := b) cwX2_note mlX1_84 imX2_note seX2_note (by decide +kernel) rfl (ci := 2) rfl (OB.at ht1.ob (by decide)) (Nat.le_refl _) (Nat.le_of_eq (Nat.zero_add _)) rfl rfl (by simp [oneSlot]) (Nat.le_of_ble_eq_true rfl) (Ct.mono hG ?_)
      rintro o h' (⟨g6, rfl, rfl, hG⟩ | ⟨E, g, rfl, rfl, hG⟩)
      · show AW Γ l mX1_breakIn (d + 1) b 34 [vR 160, vR t1, vI x2, vI x3, vI (cel g (t1 + 1 + 5) x2), vU] [] (stt g6) K
        refine aw_iconst (n := -1) (by decide +kernel) ?_
        exact aw_iret (by decide +kernel) rfl hG
      · exact hG
    · exact hG

set_option maxHeartbeats 1000000 in
theorem wpX1_countBehind {Γ : Cfg} {l : Launch} {d b : Nat} {g : GG} {K : Ou → HP → Prop} {t0 : Int} (ht0 : HI t0) {x1 : Int} {x2 : Int} {x3 : Int} (hF : (¬ wr x2 = 2 → (¬ wr x2 = 3 → Ct Γ l d 0 yX2_bitsOf mX2_bitsOf [vR t0, vI 1] (stt g) (bI (fun v1 g1 => (wr (iAnd v1 (iXor (iShl 1 x1) (-1))) = 0 → (¬ wr x2 = 4 → K (.inl (vI x3)) (stt g1)) ∧ (¬ (¬ wr x2 = 4) → K (.inl (vI x3)) (stt g1))) ∧ (¬ (wr (iAnd v1 (iXor (iShl 1 x1) (-1))) = 0) → (¬ wr x2 = 4 → K (.inl (vI x3)) (stt g1)) ∧ (¬ (¬ wr x2 = 4) → K (.inl (vI 0)) (stt g1)))) K)) ∧ (¬ (¬ wr x2 = 3) → K (.inl (vI (iMax 0 (x3 - 2)))) (stt g))) ∧ (¬ (¬ wr x2 = 2) → K (.inl (vI (iMax 0 (x3 - 1)))) (stt g))) : Ct Γ l (d + 1) b yX1_countBehind mX1_countBehind [vR t0, vI x1, vI x2, vI x3] (stt g) K := by
  refine Ct.enter (L := [vR t0, vI x1, vI x2, vI x3, vU]) rfl rfl rfl (by decide +kernel) (by simp [oneSlot]) (Nat.le_of_ble_eq_true rfl) rfl ?_
  refine aw_iload_n (k' := 2) (by decide +kernel) rfl ?_
  refine aw_iconst (n := 2) (by decide +kernel) ?_
  refine ax_icmp_ne (off := 11) (tgt := 13) (x' := wr x2) (y' := 2) (by decide +kernel) (by decide) rfl (by decide +kernel) (fun hc => ?_) (fun hc => ?_)
  · have hF := hF.1 hc
    refine aw_iload_n (k' := 2) (by decide +kernel) rfl ?_
    refine aw_iconst (n := 3) (by decide +kernel) ?_
    refine ax_icmp_ne (off := 11) (tgt := 26) (x' := wr x2) (y' := 3) (by decide +kernel) (by decide) rfl (by decide +kernel) (fun hc => ?_) (fun hc => ?_)
    · have hF := hF.1 hc
      refine aw_aload_n (k' := 0) (by decide +kernel) rfl ?_
      refine aw_iconst (n := 1) (by decide +kernel) ?_
      refine aw_callV (y := yX2_bitsOf) (M2 := mX2_bitsOf) (as := [vI 1]) (S := []) (t := t0) (d2 := d) (b2 := 0) (b3 := b) cwX2_bitsOf mlX1_99 imX2_bitsOf seX2_bitsOf (by decide +kernel) rfl (ci := 2) rfl (OB.at ht0.ob (by decide)) (Nat.le_refl _) (Nat.le_of_eq (Nat.zero_add _)) rfl rfl (by simp [oneSlot]) (Nat.le_of_ble_eq_true rfl) (Ct.mono hF ?_)
      rintro o h' (⟨v1, g1, rfl, rfl, hG⟩ | ⟨E, g, rfl, rfl, hG⟩)
      · show AW Γ l mX1_countBehind (d + 1) b 31 [vR t0, vI x1, vI x2, vI x3, vU] [vI v1] (stt g1) K
        refine aw_iconst (n := 1) (by decide +kernel) ?_
        refine aw_iload_n (k' := 1) (by decide +kernel) rfl ?_
        refine aw_ishl (by decide +kernel) ?_
        refine aw_iconst (n := -1) (by decide +kernel) ?_
        refine aw_ixor (by decide +kernel) ?_
        refine aw_iand (by decide +kernel) ?_
        refine ax_if_eq (off := 7) (tgt := 44) (x' := wr (iAnd v1 (iXor (iShl 1 x1) (-1)))) (by decide +kernel) (by decide) rfl (fun hc => ?_) (fun hc => ?_)
        · have hG := hG.1 hc
          refine aw_iconst (n := 0) (by decide +kernel) ?_
          refine aw_istore (i := 4) (by decide +kernel) (by decide) ?_
          show AW Γ l mX1_countBehind (d + 1) b 47 [vR t0, vI x1, vI x2, vI x3, vI 0] [] (stt g1) K
          refine aw_iload_n (k' := 2) (by decide +kernel) rfl ?_
          refine aw_iconst (n := 4) (by decide +kernel) ?_
          refine ax_icmp_ne (off := 12) (tgt := 61) (x' := wr x2) (y' := 4) (by decide +kernel) (by decide) rfl (by decide +kernel) (fun hc => ?_) (fun hc => ?_)
          · have hG := hG.1 hc
            refine aw_iload_n (k' := 3) (by decide +kernel) rfl ?_
            exact aw_iret (by decide +kernel) rfl hG
          · have hG := hG.2 hc
            refine aw_iload (i := 4) (by decide +kernel) rfl ?_
            refine ax_if_eq (off := 7) (tgt := 61) (x' := 0) (by decide +kernel) (by decide) (by decide +kernel) (fun hc => ?_) (fun hc => absurd (by decide) hc)
            refine aw_iload_n (k' := 3) (by decide +kernel) rfl ?_
            exact aw_iret (by decide +kernel) rfl hG
        · have hG := hG.2 hc
          refine aw_iconst (n := 1) (by decide +kernel) ?_
          refine aw_goto (off := 4) (tgt := 45) (by decide +kernel) (by decide) ?_
          refine aw_istore (i := 4) (by decide +kernel) (by decide) ?_
          show AW Γ l mX1_countBehind (d + 1) b 47 [vR t0, vI x1, vI x2, vI x3, vI 1] [] (stt g1) K
          refine aw_iload_n (k' := 2) (by decide +kernel) rfl ?_
          refine aw_iconst (n := 4) (by decide +kernel) ?_
          refine ax_icmp_ne (off := 12) (tgt := 61) (x' := wr x2) (y' := 4) (by decide +kernel) (by decide) rfl (by decide +kernel) (fun hc => ?_) (fun hc => ?_)
          · have hG := hG.1 hc
            refine aw_iload_n (k' := 3) (by decide +kernel) rfl ?_
            exact aw_iret (by decide +kernel) rfl hG
          · have hG := hG.2 hc
            refine aw_iload (i := 4) (by decide +kernel) rfl ?_
            refine ax_if_eq (off := 7) (tgt := 61) (x' := 1) (by decide +kernel) (by decide) (by decide +kernel) (fun hc => absurd hc (by decide)) (fun hc => ?_)
            refine aw_iconst (n := 0) (by decide +kernel) ?_
            refine aw_goto (off := 4) (tgt := 62) (by decide +kernel) (by decide) ?_
            exact aw_iret (by decide +kernel) rfl hG
      · exact hG
    · have hF := hF.2 hc
      refine aw_iconst (n := 0) (by decide +kernel) ?_
      refine aw_iload_n (k' := 3) (by decide +kernel) rfl ?_
      refine aw_iconst (n := 2) (by decide +kernel) ?_
      refine aw_isub (by decide +kernel) ?_
      refine aw_mmax (by decide +kernel) mlX1_96 stJ9_max_7cf53 cwM_init cwM_max (by simp [oneSlot]) (Nat.le_of_ble_eq_true rfl) ?_
      exact aw_iret (by decide +kernel) rfl hF
  · have hF := hF.2 hc
    refine aw_iconst (n := 0) (by decide +kernel) ?_
    refine aw_iload_n (k' := 3) (by decide +kernel) rfl ?_
    refine aw_iconst (n := 1) (by decide +kernel) ?_
    refine aw_isub (by decide +kernel) ?_
    refine aw_mmax (by decide +kernel) mlX1_96 stJ9_max_7cf53 cwM_init cwM_max (by simp [oneSlot]) (Nat.le_of_ble_eq_true rfl) ?_
    exact aw_iret (by decide +kernel) rfl hF

set_option maxHeartbeats 1000000 in
theorem wpX1_letFinish {Γ : Cfg} {l : Launch} {d b : Nat} {g : GG} {K : Ou → HP → Prop} {t1 : Int} (ht1 : HI t1) {x2 : Int} (hF : Ct Γ l d 0 yX2_settle mX2_settle [vR t1, vI x2, vI 2, vI (cel g (t1 + 1 + 1) x2)] (stt g) (bV (fun g1 => Ct Γ l d 0 yX7_weight mX7_weight [vR 153, vR t1, vI x2, vI (cel g (t1 + 1 + 1) x2)] (stt g1) (bI (fun v1 g2 => Ct Γ l d 0 yX2_note mX2_note [vR t1, vI x2, vI 5, vI (cel g (t1 + 1 + 1) x2), vI v1] (stt g2) (bV (fun g3 => K (.inl (vI v1)) (stt g3)) K)) K)) K)) : Ct Γ l (d + 1) b yX1_letFinish mX1_letFinish [vR 160, vR t1, vI x2] (stt g) K := by
  refine Ct.enter (L := [vR 160, vR t1, vI x2, vU, vU]) rfl rfl rfl (by decide +kernel) (by simp [oneSlot]) (Nat.le_of_ble_eq_true rfl) rfl ?_
  refine aw_aload_n (k' := 1) (by decide +kernel) rfl ?_
  refine gfX1_62 rfl (by decide +kernel) (OB.at ht1.ob (by decide)) ?_
  refine AW.topR (ht1.r1) ?_
  refine aw_iload_n (k' := 2) (by decide +kernel) rfl ?_
  refine aw_callSN (host := "HalfOaths") (y := yX11_cell) (M2 := mX11_cell) (as := [vR (t1 + 1 + 1), vI x2]) (S := []) (d2 := d) (b2 := 0) (b3 := b) cwX11_cell mlX1_25 stX11_cell (by decide +kernel) rfl (Nat.le_refl _) (Nat.le_of_eq (Nat.zero_add _)) rfl rfl (by simp [oneSlot]) (Nat.le_of_ble_eq_true rfl) (c_cell (ht1.a1) ?_)
  show AW Γ l mX1_letFinish (d + 1) b 8 [vR 160, vR t1, vI x2, vU, vU] [vI (cel g (t1 + 1 + 1) x2)] (stt g) K
  refine aw_istore_n (k' := 3) (by decide +kernel) (by decide) ?_
  show AW Γ l mX1_letFinish (d + 1) b 9 [vR 160, vR t1, vI x2, vI (cel g (t1 + 1 + 1) x2), vU] [] (stt g) K
  refine aw_aload_n (k' := 1) (by decide +kernel) rfl ?_
  refine aw_iload_n (k' := 2) (by decide +kernel) rfl ?_
  refine aw_iconst (n := 2) (by decide +kernel) ?_
  refine aw_iload_n (k' := 3) (by decide +kernel) rfl ?_
  refine aw_callV (y := yX2_settle) (M2 := mX2_settle) (as := [vI x2, vI 2, vI (cel g (t1 + 1 + 1) x2)]) (S := []) (t := t1) (d2 := d) (b2 := 0) (b3 := b) cwX2_settle mlX1_92 imX2_settle seX2_settle (by decide +kernel) rfl (ci := 2) rfl (OB.at ht1.ob (by decide)) (Nat.le_refl _) (Nat.le_of_eq (Nat.zero_add _)) rfl rfl (by simp [oneSlot]) (Nat.le_of_ble_eq_true rfl) (Ct.mono hF ?_)
  rintro o h' (⟨g1, rfl, rfl, hG⟩ | ⟨E, g, rfl, rfl, hG⟩)
  · show AW Γ l mX1_letFinish (d + 1) b 16 [vR 160, vR t1, vI x2, vI (cel g (t1 + 1 + 1) x2), vU] [] (stt g1) K
    refine aw_aload_n (k' := 0) (by decide +kernel) rfl ?_
    refine gfX1_9 rfl (by decide +kernel) (OB.at (ci := 1) (show shp 160 = (11, 0) by decide +kernel) (by decide)) ?_
    refine AW.topR (show RC 160 0 = 153 by decide +kernel) ?_
    refine aw_aload_n (k' := 1) (by decide +kernel) rfl ?_
    refine aw_iload_n (k' := 2) (by decide +kernel) rfl ?_
    refine aw_iload_n (k' := 3) (by decide +kernel) rfl ?_
    refine aw_callV (y := yX7_weight) (M2 := mX7_weight) (as := [vR t1, vI x2, vI (cel g (t1 + 1 + 1) x2)]) (S := []) (t := 153) (d2 := d) (b2 := 0) (b3 := b) cwX7_weight mlX1_81 imX7_weight seX7_weight (by decide +kernel) rfl (ci := 6) rfl (OB.at (ci := 6) (show shp 153 = (16, 0) by decide +kernel) (by decide)) (Nat.le_refl _) (Nat.le_of_eq (Nat.zero_add _)) rfl rfl (by simp [oneSlot]) (Nat.le_of_ble_eq_true rfl) (Ct.mono hG ?_)
    rintro o h' (⟨v1, g2, rfl, rfl, hG⟩ | ⟨E, g, rfl, rfl, hG⟩)
    · show AW Γ l mX1_letFinish (d + 1) b 26 [vR 160, vR t1, vI x2, vI (cel g (t1 + 1 + 1) x2), vU] [vI v1] (stt g2) K
      refine aw_istore (i := 4) (by decide +kernel) (by decide) ?_
      show AW Γ l mX1_letFinish (d + 1) b 28 [vR 160, vR t1, vI x2, vI (cel g (t1 + 1 + 1) x2), vI v1] [] (stt g2) K
      refine aw_aload_n (k' := 1) (by decide +kernel) rfl ?_
      refine aw_iload_n (k' := 2) (by decide +kernel) rfl ?_
      refine aw_iconst (n := 5) (by decide +kernel) ?_
      refine aw_iload_n (k' := 3) (by decide +kernel) rfl ?_
      refine aw_iload (i := 4) (by decide +kernel) rfl ?_
      refine aw_callV (y := yX2_note) (M2 := mX2_note) (as := [vI x2, vI 5, vI (cel g (t1 + 1 + 1) x2), vI v1]) (S := []) (t := t1) (d2 := d) (b2 := 0) (b3 := b) cwX2_note mlX1_84 imX2_note seX2_note (by decide +kernel) rfl (ci := 2) rfl (OB.at ht1.ob (by decide)) (Nat.le_refl _) (Nat.le_of_eq (Nat.zero_add _)) rfl rfl (by simp [oneSlot]) (Nat.le_of_ble_eq_true rfl) (Ct.mono hG ?_)
      rintro o h' (⟨g3, rfl, rfl, hG⟩ | ⟨E, g, rfl, rfl, hG⟩)
      · show AW Γ l mX1_letFinish (d + 1) b 37 [vR 160, vR t1, vI x2, vI (cel g (t1 + 1 + 1) x2), vI v1] [] (stt g3) K
        refine aw_iload (i := 4) (by decide +kernel) rfl ?_
        exact aw_iret (by decide +kernel) rfl hG
      · exact hG
    · exact hG
  · exact hG

set_option maxHeartbeats 1000000 in
theorem wpX4_copy {Γ : Cfg} {l : Launch} {d b : Nat} {g : GG} {K : Ou → HP → Prop} {t : Int} (ht : LA t) {t1 : Int} (ht1 : LA t1) (hF : (((0 : Int) ≤ 0 ∧ (0 : Int) ≤ 0 ∧ (0 : Int) ≤ ln (t + 1 + 0)) ∧ (0 : Int) + ln (t + 1 + 0) ≤ ln (t1 + 1 + 0) ∧ (0 : Int) + ln (t + 1 + 0) ≤ ln (t + 1 + 0)) ∧ (∀ g1 : GG, g1 = cpy g (t1 + 1 + 0) (t + 1 + 0) 0 0 (ln (t + 1 + 0)) → (∀ g2 : GG, g2 = upd2 (upd2 g1 t 2 (g1 t1 2)) t 3 ((upd2 g1 t 2 (g1 t1 2)) t1 3) → (wr (g2 t1 4) = 0 ∨ wr (g2 t1 4) = 1) ∧ (K (.inl vU) (stt (upd2 g2 t 4 (g2 t1 4))))))) : Ct Γ l (d + 1) b yX4_copy mX4_copy [vR t, vR t1] (stt g) K := by
  refine Ct.enter (L := [vR t, vR t1]) rfl rfl rfl (by decide +kernel) (by simp [oneSlot]) (Nat.le_of_ble_eq_true rfl) rfl ?_
  refine aw_aload_n (k' := 1) (by decide +kernel) rfl ?_
  refine gfX4_9 rfl (by decide +kernel) (OB.at ht1.ob (by decide)) ?_
  refine AW.topR (ht1.r0) ?_
  refine aw_iconst (n := 0) (by decide +kernel) ?_
  refine aw_aload_n (k' := 0) (by decide +kernel) rfl ?_
  refine gfX4_9 rfl (by decide +kernel) (OB.at ht.ob (by decide)) ?_
  refine AW.topR (ht.r0) ?_
  refine aw_iconst (n := 0) (by decide +kernel) ?_
  refine aw_aload_n (k' := 0) (by decide +kernel) rfl ?_
  refine gfX4_9 rfl (by decide +kernel) (OB.at ht.ob (by decide)) ?_
  refine AW.topR (ht.r0) ?_
  refine aw_alen (by decide +kernel) (by decide) (IA.at (ht.a0)) ?_
  show AW Γ l mX4_copy (d + 1) b 15 [vR t, vR t1] [vI (ln (t + 1 + 0)), vI 0, vR (t + 1 + 0), vI 0, vR (t1 + 1 + 0)] (stt g) K
  refine aw_copy (sp' := 0) (dp' := 0) (n' := ln (t + 1 + 0)) (by decide +kernel) mlX4_38 cwSy_nat cwSy_st cwSy_init (IA.at (ht1.a0)) (IA.at (ht.a0)) (by decide +kernel) (by decide +kernel) (wr_ln _) hF.1 (by simp [oneSlot]) (Nat.le_of_ble_eq_true rfl) ?_
  replace hF := hF.2
  show AW Γ l mX4_copy (d + 1) b 18 [vR t, vR t1] [] (stt (cpy g (t1 + 1 + 0) (t + 1 + 0) 0 0 (ln (t + 1 + 0)))) K
  generalize eg1 : cpy g (t1 + 1 + 0) (t + 1 + 0) 0 0 (ln (t + 1 + 0)) = g1
  replace hF := hF g1 eg1.symm
  refine aw_aload_n (k' := 0) (by decide +kernel) rfl ?_
  refine aw_aload_n (k' := 1) (by decide +kernel) rfl ?_
  refine gfX4_18 rfl (by decide +kernel) (OB.at ht1.ob (by decide)) ?_
  refine pfX4_18 rfl (by decide +kernel) (OB.at ht.ob (by decide)) ?_
  show AW Γ l mX4_copy (d + 1) b 26 [vR t, vR t1] [] (stt (upd2 g1 t 2 (g1 t1 2))) K
  refine aw_aload_n (k' := 0) (by decide +kernel) rfl ?_
  refine aw_aload_n (k' := 1) (by decide +kernel) rfl ?_
  refine gfX4_22 rfl (by decide +kernel) (OB.at ht1.ob (by decide)) ?_
  refine pfX4_22 rfl (by decide +kernel) (OB.at ht.ob (by decide)) ?_
  show AW Γ l mX4_copy (d + 1) b 34 [vR t, vR t1] [] (stt (upd2 (upd2 g1 t 2 (g1 t1 2)) t 3 ((upd2 g1 t 2 (g1 t1 2)) t1 3))) K
  generalize eg2 : upd2 (upd2 g1 t 2 (g1 t1 2)) t 3 ((upd2 g1 t 2 (g1 t1 2)) t1 3) = g2
  replace hF := hF g2 eg2.symm
  refine aw_aload_n (k' := 0) (by decide +kernel) rfl ?_
  refine aw_aload_n (k' := 1) (by decide +kernel) rfl ?_
  refine gfX4_25 rfl (by decide +kernel) (OB.at ht1.ob (by decide)) ?_
  refine pfX4_25 rfl (by decide +kernel) (OB.at ht.ob (by decide)) (nar_z hF.1) (fit_z hF.1) ?_
  replace hF := hF.2
  exact aw_vret (by decide +kernel) rfl hF

set_option maxHeartbeats 1000000 in
theorem wpX4_readText {Γ : Cfg} {l : Launch} {d b : Nat} {g : GG} {K : Ou → HP → Prop} {t : Int} (ht : LA t) (hF : (SG ((upd2 (upd2 (upd2 g t 2 0) t 3 0) t 4 1) 4 4)) ∧ ((¬ (upd2 (upd2 (upd2 g t 2 0) t 3 0) t 4 1) 4 4 = 1037 → AW Γ l mX4_readText (d + 1) b 27 [vR t, vR 4, vU, vU] [] (stt (upd2 (upd2 (upd2 g t 2 0) t 3 0) t 4 1)) K) ∧ ((upd2 (upd2 (upd2 g t 2 0) t 3 0) t 4 1) 4 4 = 1037 → K (.inl (vI 1)) (stt (upd2 (upd2 (upd2 g t 2 0) t 3 0) t 4 1))))) : Ct Γ l (d + 1) b yX4_readText mX4_readText [vR t, vR 4] (stt g) K := by
  refine Ct.enter (L := [vR t, vR 4, vU, vU]) rfl rfl rfl (by decide +kernel) (by simp [oneSlot]) (Nat.le_of_ble_eq_true rfl) rfl ?_
  refine aw_aload_n (k' := 0) (by decide +kernel) rfl ?_
  refine aw_iconst (n := 0) (by decide +kernel) ?_
  refine pfX4_18 rfl (by decide +kernel) (OB.at ht.ob (by decide)) ?_
  show AW Γ l mX4_readText (d + 1) b 5 [vR t, vR 4, vU, vU] [] (stt (upd2 g t 2 0)) K
  refine aw_aload_n (k' := 0) (by decide +kernel) rfl ?_
  refine aw_iconst (n := 0) (by decide +kernel) ?_
  refine pfX4_22 rfl (by decide +kernel) (OB.at ht.ob (by decide)) ?_
  show AW Γ l mX4_readText (d + 1) b 10 [vR t, vR 4, vU, vU] [] (stt (upd2 (upd2 g t 2 0) t 3 0)) K
  refine aw_aload_n (k' := 0) (by decide +kernel) rfl ?_
  refine aw_iconst (n := 1) (by decide +kernel) ?_
  refine pfX4_25 rfl (by decide +kernel) (OB.at ht.ob (by decide)) rfl rfl ?_
  show AW Γ l mX4_readText (d + 1) b 15 [vR t, vR 4, vU, vU] [] (stt (upd2 (upd2 (upd2 g t 2 0) t 3 0) t 4 1)) K
  refine aw_aload_n (k' := 1) (by decide +kernel) rfl ?_
  refine gfX4_44 rfl (by decide +kernel) (OB.at (ci := 8) (show shp 4 = (18, 0) by decide +kernel) (by decide)) ?_
  refine aw_sign' (idx := 50) (i := 37) (r := 1037) (by decide +kernel) (by decide) (by decide) (fun hown hts hnw => Or.inl (hts _ (tm4 95 (by decide +kernel) (by decide +kernel)))) ?_
  refine aw_sacmp_ne (off := 5) (tgt := 27) (by decide +kernel) (by decide) hF.1 (show SG 1037 from ⟨by decide, by decide⟩) (fun hc => ?_) (fun hc => ?_)
  all_goals replace hF := hF.2
  · have hF := hF.1 hc
    exact hF
  · have hF := hF.2 hc
    refine aw_iconst (n := 1) (by decide +kernel) ?_
    exact aw_zret (by decide +kernel) rfl rfl hF
set_option maxHeartbeats 1000000 in
theorem wpX4_readText_27 {Γ : Cfg} {l : Launch} {d b : Nat} {g : GG} {K : Ou → HP → Prop} {t : Int} (ht : LA t) (hF : (12 ≤ wr (g t 3) → K (.inl (vI 0)) (stt g)) ∧ (¬ (12 ≤ wr (g t 3)) → Ct Γ l d 0 yX4_lineStep mX4_lineStep [vR (g 4 4)] (stt g) (bI (fun v1 g1 => (¬ wr v1 = -1 → Ct Γ l d 0 yX10_step mX10_step [vR 4] (stt g1) (bV (fun g2 => Ct Γ l d 0 yX10_tells mX10_tells [vR 4, vI 0, vI 40] (stt g2) (bI (fun v2 g3 => (¬ wr v2 = 0 → Ct Γ l d 0 yX10_step mX10_step [vR 4] (stt g3) (bV (fun g4 => (SG (g4 4 4)) ∧ ((g4 4 4 = 1004 → Ct Γ l d 0 yX10_step mX10_step [vR 4] (stt g4) (bV (fun g5 => Ct Γ l d 0 yX4_readAny mX4_readAny [vR t, vR 4, vI 0] (stt g5) (bI (fun v3 g6 => (¬ wr v3 = 0 → Ct Γ l d 0 yX4_emit mX4_emit [vR t, vI v1, vI (g3 4 6)] (stt g6) (bV (fun g7 => (SG ((upd2 g7 t 3 ((g7 t 3) + 1)) 4 4)) ∧ ((¬ (upd2 g7 t 3 ((g7 t 3) + 1)) 4 4 = 1037 → (SG ((upd2 g7 t 3 ((g7 t 3) + 1)) 4 4)) ∧ (((upd2 g7 t 3 ((g7 t 3) + 1)) 4 4 = 1030 → Ct Γ l d 0 yX10_step mX10_step [vR 4] (stt (upd2 g7 t 3 ((g7 t 3) + 1))) (bV (fun g8 => AW Γ l mX4_readText (d + 1) b 27 [vR t, vR 4, vI v1, vI (g3 4 6)] [] (stt g8) K) K)) ∧ (¬ (upd2 g7 t 3 ((g7 t 3) + 1)) 4 4 = 1030 → K (.inl (vI 0)) (stt (upd2 g7 t 3 ((g7 t 3) + 1)))))) ∧ ((upd2 g7 t 3 ((g7 t 3) + 1)) 4 4 = 1037 → K (.inl (vI 1)) (stt (upd2 g7 t 3 ((g7 t 3) + 1)))))) K)) ∧ (¬ (¬ wr v3 = 0) → K (.inl (vI 0)) (stt g6))) K)) K)) ∧ (¬ g4 4 4 = 1004 → Ct Γ l d 0 yX4_emit mX4_emit [vR t, vI 0, vI 1] (stt g4) (bV (fun g9 => Ct Γ l d 0 yX4_emit mX4_emit [vR t, vI v1, vI (g3 4 6)] (stt g9) (bV (fun g10 => (SG ((upd2 g10 t 3 ((g10 t 3) + 1)) 4 4)) ∧ ((¬ (upd2 g10 t 3 ((g10 t 3) + 1)) 4 4 = 1037 → (SG ((upd2 g10 t 3 ((g10 t 3) + 1)) 4 4)) ∧ (((upd2 g10 t 3 ((g10 t 3) + 1)) 4 4 = 1030 → Ct Γ l d 0 yX10_step mX10_step [vR 4] (stt (upd2 g10 t 3 ((g10 t 3) + 1))) (bV (fun g11 => AW Γ l mX4_readText (d + 1) b 27 [vR t, vR 4, vI v1, vI (g3 4 6)] [] (stt g11) K) K)) ∧ (¬ (upd2 g10 t 3 ((g10 t 3) + 1)) 4 4 = 1030 → K (.inl (vI 0)) (stt (upd2 g10 t 3 ((g10 t 3) + 1)))))) ∧ ((upd2 g10 t 3 ((g10 t 3) + 1)) 4 4 = 1037 → K (.inl (vI 1)) (stt (upd2 g10 t 3 ((g10 t 3) + 1)))))) K)) K)))) K)) ∧ (¬ (¬ wr v2 = 0) → K (.inl (vI 0)) (stt g3))) K)) K)) ∧ (¬ (¬ wr v1 = -1) → K (.inl (vI 0)) (stt g1))) K))) : AW Γ l mX4_readText (d + 1) b 27 [vR t, vR 4, vU, vU] [] (stt g) K := by
  refine aw_aload_n (k' := 0) (by decide +kernel) rfl ?_
  refine gfX4_22 rfl (by decide +kernel) (OB.at ht.ob (by decide)) ?_
  refine aw_bipush (n := 12) (by decide +kernel) (by decide +kernel) ?_
  refine ax_icmp_ge (off := 124) (tgt := 157) (x' := wr (g t 3)) (y' := 12) (by decide +kernel) (by decide) rfl (by decide +kernel) (fun hc => ?_) (fun hc => ?_)
  · have hF := hF.1 hc
    refine aw_iconst (n := 0) (by decide +kernel) ?_
    exact aw_zret (by decide +kernel) rfl rfl hF
  · have hF := hF.2 hc
    refine aw_aload_n (k' := 1) (by decide +kernel) rfl ?_
    refine gfX4_44 rfl (by decide +kernel) (OB.at (ci := 8) (show shp 4 = (18, 0) by decide +kernel) (by decide)) ?_
    refine aw_callS (y := yX4_lineStep) (M2 := mX4_lineStep) (as := [vR (g 4 4)]) (S := []) (d2 := d) (b2 := 0) (b3 := b) cwX4_lineStep mlX4_55 stX4_lineStep (by decide +kernel) rfl (Nat.le_refl _) (Nat.le_of_eq (Nat.zero_add _)) rfl rfl (by simp [oneSlot]) (Nat.le_of_ble_eq_true rfl) (Ct.mono hF ?_)
    rintro o h' (⟨v1, g1, rfl, rfl, hG⟩ | ⟨E, g, rfl, rfl, hG⟩)
    · show AW Γ l mX4_readText (d + 1) b 43 [vR t, vR 4, vU, vU] [vI v1] (stt g1) K
      refine aw_istore_n (k' := 2) (by decide +kernel) (by decide) ?_
      show AW Γ l mX4_readText (d + 1) b 44 [vR t, vR 4, vI v1, vU] [] (stt g1) K
      refine aw_iload_n (k' := 2) (by decide +kernel) rfl ?_
      refine aw_iconst (n := -1) (by decide +kernel) ?_
      refine ax_icmp_ne (off := 5) (tgt := 51) (x' := wr v1) (y' := -1) (by decide +kernel) (by decide) rfl (by decide +kernel) (fun hc => ?_) (fun hc => ?_)
      · have hG := hG.1 hc
        refine aw_aload_n (k' := 1) (by decide +kernel) rfl ?_
        refine aw_callV (y := yX10_step) (M2 := mX10_step) (as := []) (S := []) (t := 4) (d2 := d) (b2 := 0) (b3 := b) cwX10_step mlX4_59 imX10_step seX10_step (by decide +kernel) rfl (ci := 8) rfl (OB.at (ci := 8) (show shp 4 = (18, 0) by decide +kernel) (by decide)) (Nat.le_refl _) (Nat.le_of_eq (Nat.zero_add _)) rfl rfl (by simp [oneSlot]) (Nat.le_of_ble_eq_true rfl) (Ct.mono hG ?_)
        rintro o h' (⟨g2, rfl, rfl, hG⟩ | ⟨E, g, rfl, rfl, hG⟩)
        · show AW Γ l mX4_readText (d + 1) b 55 [vR t, vR 4, vI v1, vU] [] (stt g2) K
          refine aw_aload_n (k' := 1) (by decide +kernel) rfl ?_
          refine aw_iconst (n := 0) (by decide +kernel) ?_
          refine aw_bipush (n := 40) (by decide +kernel) (by decide +kernel) ?_
          refine aw_callV (y := yX10_tells) (M2 := mX10_tells) (as := [vI 0, vI 40]) (S := []) (t := 4) (d2 := d) (b2 := 0) (b3 := b) cwX10_tells mlX4_62 imX10_tells seX10_tells (by decide +kernel) rfl (ci := 8) rfl (OB.at (ci := 8) (show shp 4 = (18, 0) by decide +kernel) (by decide)) (Nat.le_refl _) (Nat.le_of_eq (Nat.zero_add _)) rfl rfl (by simp [oneSlot]) (Nat.le_of_ble_eq_true rfl) (Ct.mono hG ?_)
          rintro o h' (⟨v2, g3, rfl, rfl, hG⟩ | ⟨E, g, rfl, rfl, hG⟩)
          · show AW Γ l mX4_readText (d + 1) b 62 [vR t, vR 4, vI v1, vU] [vI v2] (stt g3) K
            refine ax_if_ne (off := 5) (tgt := 67) (x' := wr v2) (by decide +kernel) (by decide) rfl (fun hc => ?_) (fun hc => ?_)
            · have hG := hG.1 hc
              refine aw_aload_n (k' := 1) (by decide +kernel) rfl ?_
              refine gfX4_66 rfl (by decide +kernel) (OB.at (ci := 8) (show shp 4 = (18, 0) by decide +kernel) (by decide)) ?_
              refine aw_istore_n (k' := 3) (by decide +kernel) (by decide) ?_
              show AW Γ l mX4_readText (d + 1) b 72 [vR t, vR 4, vI v1, vI (g3 4 6)] [] (stt g3) K
              refine aw_aload_n (k' := 1) (by decide +kernel) rfl ?_
              refine aw_callV (y := yX10_step) (M2 := mX10_step) (as := []) (S := []) (t := 4) (d2 := d) (b2 := 0) (b3 := b) cwX10_step mlX4_59 imX10_step seX10_step (by decide +kernel) rfl (ci := 8) rfl (OB.at (ci := 8) (show shp 4 = (18, 0) by decide +kernel) (by decide)) (Nat.le_refl _) (Nat.le_of_eq (Nat.zero_add _)) rfl rfl (by simp [oneSlot]) (Nat.le_of_ble_eq_true rfl) (Ct.mono hG ?_)
              rintro o h' (⟨g4, rfl, rfl, hG⟩ | ⟨E, g, rfl, rfl, hG⟩)
              · show AW Γ l mX4_readText (d + 1) b 76 [vR t, vR 4, vI v1, vI (g3 4 6)] [] (stt g4) K
                refine aw_aload_n (k' := 1) (by decide +kernel) rfl ?_
                refine gfX4_44 rfl (by decide +kernel) (OB.at (ci := 8) (show shp 4 = (18, 0) by decide +kernel) (by decide)) ?_
                refine aw_sign' (idx := 69) (i := 4) (r := 1004) (by decide +kernel) (by decide) (by decide) (fun hown hts hnw => Or.inl (hts _ (tm4 107 (by decide +kernel) (by decide +kernel)))) ?_
                refine aw_sacmp_eq (off := 12) (tgt := 95) (by decide +kernel) (by decide) hG.1 (show SG 1004 from ⟨by decide, by decide⟩) (fun hc => ?_) (fun hc => ?_)
                all_goals replace hG := hG.2
                · have hG := hG.1 hc
                  refine aw_aload_n (k' := 1) (by decide +kernel) rfl ?_
                  refine aw_callV (y := yX10_step) (M2 := mX10_step) (as := []) (S := []) (t := 4) (d2 := d) (b2 := 0) (b3 := b) cwX10_step mlX4_59 imX10_step seX10_step (by decide +kernel) rfl (ci := 8) rfl (OB.at (ci := 8) (show shp 4 = (18, 0) by decide +kernel) (by decide)) (Nat.le_refl _) (Nat.le_of_eq (Nat.zero_add _)) rfl rfl (by simp [oneSlot]) (Nat.le_of_ble_eq_true rfl) (Ct.mono hG ?_)
                  rintro o h' (⟨g5, rfl, rfl, hG⟩ | ⟨E, g, rfl, rfl, hG⟩)
                  · show AW Γ l mX4_readText (d + 1) b 99 [vR t, vR 4, vI v1, vI (g3 4 6)] [] (stt g5) K
                    refine aw_aload_n (k' := 0) (by decide +kernel) rfl ?_
                    refine aw_aload_n (k' := 1) (by decide +kernel) rfl ?_
                    refine aw_iconst (n := 0) (by decide +kernel) ?_
                    refine aw_callS (y := yX4_readAny) (M2 := mX4_readAny) (as := [vR t, vR 4, vI 0]) (S := []) (d2 := d) (b2 := 0) (b3 := b) cwX4_readAny mlX4_76 stX4_readAny (by decide +kernel) rfl (Nat.le_refl _) (Nat.le_of_eq (Nat.zero_add _)) rfl rfl (by simp [oneSlot]) (Nat.le_of_ble_eq_true rfl) (Ct.mono hG ?_)
                    rintro o h' (⟨v3, g6, rfl, rfl, hG⟩ | ⟨E, g, rfl, rfl, hG⟩)
                    · show AW Γ l mX4_readText (d + 1) b 105 [vR t, vR 4, vI v1, vI (g3 4 6)] [vI v3] (stt g6) K
                      refine ax_if_ne (off := 5) (tgt := 110) (x' := wr v3) (by decide +kernel) (by decide) rfl (fun hc => ?_) (fun hc => ?_)
                      · have hG := hG.1 hc
                        refine aw_aload_n (k' := 0) (by decide +kernel) rfl ?_
                        refine aw_iload_n (k' := 2) (by decide +kernel) rfl ?_
                        refine aw_iload_n (k' := 3) (by decide +kernel) rfl ?_
                        refine aw_callV (y := yX4_emit) (M2 := mX4_emit) (as := [vI v1, vI (g3 4 6)]) (S := []) (t := t) (d2 := d) (b2 := 0) (b3 := b) cwX4_emit mlX4_72 imX4_emit seX4_emit (by decide +kernel) rfl (ci := 3) rfl (OB.at ht.ob (by decide)) (Nat.le_refl _) (Nat.le_of_eq (Nat.zero_add _)) rfl rfl (by simp [oneSlot]) (Nat.le_of_ble_eq_true rfl) (Ct.mono hG ?_)
                        rintro o h' (⟨g7, rfl, rfl, hG⟩ | ⟨E, g, rfl, rfl, hG⟩)
                        · show AW Γ l mX4_readText (d + 1) b 116 [vR t, vR 4, vI v1, vI (g3 4 6)] [] (stt g7) K
                          refine aw_aload_n (k' := 0) (by decide +kernel) rfl ?_
                          refine aw_dup (by decide +kernel) trivial ?_
                          refine gfX4_22 rfl (by decide +kernel) (OB.at ht.ob (by decide)) ?_
                          refine aw_iconst (n := 1) (by decide +kernel) ?_
                          refine aw_iadd (by decide +kernel) ?_
                          refine pfX4_22 rfl (by decide +kernel) (OB.at ht.ob (by decide)) ?_
                          show AW Γ l mX4_readText (d + 1) b 126 [vR t, vR 4, vI v1, vI (g3 4 6)] [] (stt (upd2 g7 t 3 ((g7 t 3) + 1))) K
                          refine aw_aload_n (k' := 1) (by decide +kernel) rfl ?_
                          refine gfX4_44 rfl (by decide +kernel) (OB.at (ci := 8) (show shp 4 = (18, 0) by decide +kernel) (by decide)) ?_
                          refine aw_sign' (idx := 50) (i := 37) (r := 1037) (by decide +kernel) (by decide) (by decide) (fun hown hts hnw => Or.inl (hts _ (tm4 95 (by decide +kernel) (by decide +kernel)))) ?_
                          refine aw_sacmp_ne (off := 5) (tgt := 138) (by decide +kernel) (by decide) hG.1 (show SG 1037 from ⟨by decide, by decide⟩) (fun hc => ?_) (fun hc => ?_)
                          all_goals replace hG := hG.2
                          · have hG := hG.1 hc
                            refine aw_aload_n (k' := 1) (by decide +kernel) rfl ?_
                            refine gfX4_44 rfl (by decide +kernel) (OB.at (ci := 8) (show shp 4 = (18, 0) by decide +kernel) (by decide)) ?_
                            refine aw_sign' (idx := 80) (i := 30) (r := 1030) (by decide +kernel) (by decide) (by decide) (fun hown hts hnw => Or.inl (hts _ (tm4 150 (by decide +kernel) (by decide +kernel)))) ?_
                            refine aw_sacmp_eq (off := 5) (tgt := 150) (by decide +kernel) (by decide) hG.1 (show SG 1030 from ⟨by decide, by decide⟩) (fun hc => ?_) (fun hc => ?_)
                            all_goals replace hG := hG.2
                            · have hG := hG.1 hc
                              refine aw_aload_n (k' := 1) (by decide +kernel) rfl ?_
                              refine aw_callV (y := yX10_step) (M2 := mX10_step) (as := []) (S := []) (t := 4) (d2 := d) (b2 := 0) (b3 := b) cwX10_step mlX4_59 imX10_step seX10_step (by decide +kernel) rfl (ci := 8) rfl (OB.at (ci := 8) (show shp 4 = (18, 0) by decide +kernel) (by decide)) (Nat.le_refl _) (Nat.le_of_eq (Nat.zero_add _)) rfl rfl (by simp [oneSlot]) (Nat.le_of_ble_eq_true rfl) (Ct.mono hG ?_)
                              rintro o h' (⟨g8, rfl, rfl, hG⟩ | ⟨E, g, rfl, rfl, hG⟩)
                              · show AW Γ l mX4_readText (d + 1) b 154 [vR t, vR 4, vI v1, vI (g3 4 6)] [] (stt g8) K
                                refine aw_goto (off := -127) (tgt := 27) (by decide +kernel) (by decide) ?_
                                exact hG
                              · exact hG
                            · have hG := hG.2 hc
                              refine aw_iconst (n := 0) (by decide +kernel) ?_
                              exact aw_zret (by decide +kernel) rfl rfl hG
                          · have hG := hG.2 hc
                            refine aw_iconst (n := 1) (by decide +kernel) ?_
                            exact aw_zret (by decide +kernel) rfl rfl hG
                        · exact hG
                      · have hG := hG.2 hc
                        refine aw_iconst (n := 0) (by decide +kernel) ?_
                        exact aw_zret (by decide +kernel) rfl rfl hG
                    · exact hG
                  · exact hG
                · have hG := hG.2 hc
                  refine aw_aload_n (k' := 0) (by decide +kernel) rfl ?_
                  refine aw_iconst (n := 0) (by decide +kernel) ?_
                  refine aw_iconst (n := 1) (by decide +kernel) ?_
                  refine aw_callV (y := yX4_emit) (M2 := mX4_emit) (as := [vI 0, vI 1]) (S := []) (t := t) (d2 := d) (b2 := 0) (b3 := b) cwX4_emit mlX4_72 imX4_emit seX4_emit (by decide +kernel) rfl (ci := 3) rfl (OB.at ht.ob (by decide)) (Nat.le_refl _) (Nat.le_of_eq (Nat.zero_add _)) rfl rfl (by simp [oneSlot]) (Nat.le_of_ble_eq_true rfl) (Ct.mono hG ?_)
                  rintro o h' (⟨g9, rfl, rfl, hG⟩ | ⟨E, g, rfl, rfl, hG⟩)
                  · show AW Γ l mX4_readText (d + 1) b 92 [vR t, vR 4, vI v1, vI (g3 4 6)] [] (stt g9) K
                    refine aw_goto (off := 18) (tgt := 110) (by decide +kernel) (by decide) ?_
                    refine aw_aload_n (k' := 0) (by decide +kernel) rfl ?_
                    refine aw_iload_n (k' := 2) (by decide +kernel) rfl ?_
                    refine aw_iload_n (k' := 3) (by decide +kernel) rfl ?_
                    refine aw_callV (y := yX4_emit) (M2 := mX4_emit) (as := [vI v1, vI (g3 4 6)]) (S := []) (t := t) (d2 := d) (b2 := 0) (b3 := b) cwX4_emit mlX4_72 imX4_emit seX4_emit (by decide +kernel) rfl (ci := 3) rfl (OB.at ht.ob (by decide)) (Nat.le_refl _) (Nat.le_of_eq (Nat.zero_add _)) rfl rfl (by simp [oneSlot]) (Nat.le_of_ble_eq_true rfl) (Ct.mono hG ?_)
                    rintro o h' (⟨g10, rfl, rfl, hG⟩ | ⟨E, g, rfl, rfl, hG⟩)
                    · show AW Γ l mX4_readText (d + 1) b 116 [vR t, vR 4, vI v1, vI (g3 4 6)] [] (stt g10) K
                      refine aw_aload_n (k' := 0) (by decide +kernel) rfl ?_
                      refine aw_dup (by decide +kernel) trivial ?_
                      refine gfX4_22 rfl (by decide +kernel) (OB.at ht.ob (by decide)) ?_
                      refine aw_iconst (n := 1) (by decide +kernel) ?_
                      refine aw_iadd (by decide +kernel) ?_
                      refine pfX4_22 rfl (by decide +kernel) (OB.at ht.ob (by decide)) ?_
                      show AW Γ l mX4_readText (d + 1) b 126 [vR t, vR 4, vI v1, vI (g3 4 6)] [] (stt (upd2 g10 t 3 ((g10 t 3) + 1))) K
                      refine aw_aload_n (k' := 1) (by decide +kernel) rfl ?_
                      refine gfX4_44 rfl (by decide +kernel) (OB.at (ci := 8) (show shp 4 = (18, 0) by decide +kernel) (by decide)) ?_
                      refine aw_sign' (idx := 50) (i := 37) (r := 1037) (by decide +kernel) (by decide) (by decide) (fun hown hts hnw => Or.inl (hts _ (tm4 95 (by decide +kernel) (by decide +kernel)))) ?_
                      refine aw_sacmp_ne (off := 5) (tgt := 138) (by decide +kernel) (by decide) hG.1 (show SG 1037 from ⟨by decide, by decide⟩) (fun hc => ?_) (fun hc => ?_)
                      all_goals replace hG := hG.2
                      · have hG := hG.1 hc
                        refine aw_aload_n (k' := 1) (by decide +kernel) rfl ?_
                        refine gfX4_44 rfl (by decide +kernel) (OB.at (ci := 8) (show shp 4 = (18, 0) by decide +kernel) (by decide)) ?_
                        refine aw_sign' (idx := 80) (i := 30) (r := 1030) (by decide +kernel) (by decide) (by decide) (fun hown hts hnw => Or.inl (hts _ (tm4 150 (by decide +kernel) (by decide +kernel)))) ?_
                        refine aw_sacmp_eq (off := 5) (tgt := 150) (by decide +kernel) (by decide) hG.1 (show SG 1030 from ⟨by decide, by decide⟩) (fun hc => ?_) (fun hc => ?_)
                        all_goals replace hG := hG.2
                        · have hG := hG.1 hc
                          refine aw_aload_n (k' := 1) (by decide +kernel) rfl ?_
                          refine aw_callV (y := yX10_step) (M2 := mX10_step) (as := []) (S := []) (t := 4) (d2 := d) (b2 := 0) (b3 := b) cwX10_step mlX4_59 imX10_step seX10_step (by decide +kernel) rfl (ci := 8) rfl (OB.at (ci := 8) (show shp 4 = (18, 0) by decide +kernel) (by decide)) (Nat.le_refl _) (Nat.le_of_eq (Nat.zero_add _)) rfl rfl (by simp [oneSlot]) (Nat.le_of_ble_eq_true rfl) (Ct.mono hG ?_)
                          rintro o h' (⟨g11, rfl, rfl, hG⟩ | ⟨E, g, rfl, rfl, hG⟩)
                          · show AW Γ l mX4_readText (d + 1) b 154 [vR t, vR 4, vI v1, vI (g3 4 6)] [] (stt g11) K
                            refine aw_goto (off := -127) (tgt := 27) (by decide +kernel) (by decide) ?_
                            exact hG
                          · exact hG
                        · have hG := hG.2 hc
                          refine aw_iconst (n := 0) (by decide +kernel) ?_
                          exact aw_zret (by decide +kernel) rfl rfl hG
                      · have hG := hG.2 hc
                        refine aw_iconst (n := 1) (by decide +kernel) ?_
                        exact aw_zret (by decide +kernel) rfl rfl hG
                    · exact hG
                  · exact hG
              · exact hG
            · have hG := hG.2 hc
              refine aw_iconst (n := 0) (by decide +kernel) ?_
              exact aw_zret (by decide +kernel) rfl rfl hG
          · exact hG
        · exact hG
      · have hG := hG.2 hc
        refine aw_iconst (n := 0) (by decide +kernel) ?_
        exact aw_zret (by decide +kernel) rfl rfl hG
    · exact hG

set_option maxHeartbeats 1000000 in
theorem wpX4_lineStep {Γ : Cfg} {l : Launch} {d b : Nat} {g : GG} {K : Ou → HP → Prop} {t0 : Int} (ht0 : SG t0) (hF : (¬ t0 = 1017 → (¬ t0 = 1018 → (¬ t0 = 1019 → K (.inl (vI (-1))) (stt g)) ∧ (t0 = 1019 → K (.inl (vI 10)) (stt g))) ∧ (t0 = 1018 → K (.inl (vI 9)) (stt g))) ∧ (t0 = 1017 → K (.inl (vI 8)) (stt g))) : Ct Γ l d b yX4_lineStep mX4_lineStep [vR t0] (stt g) K := by
  refine Ct.enter (L := [vR t0]) rfl rfl rfl (by decide +kernel) (by simp [oneSlot]) (Nat.le_of_ble_eq_true rfl) rfl ?_
  refine aw_aload_n (k' := 0) (by decide +kernel) rfl ?_
  refine aw_sign' (idx := 83) (i := 17) (r := 1017) (by decide +kernel) (by decide) (by decide) (fun hown hts hnw => Or.inl (hts _ (tm4 99 (by decide +kernel) (by decide +kernel)))) ?_
  refine aw_sacmp_ne (off := 6) (tgt := 10) (by decide +kernel) (by decide) ht0 (show SG 1017 from ⟨by decide, by decide⟩) (fun hc => ?_) (fun hc => ?_)
  · have hF := hF.1 hc
    refine aw_aload_n (k' := 0) (by decide +kernel) rfl ?_
    refine aw_sign' (idx := 86) (i := 18) (r := 1018) (by decide +kernel) (by decide) (by decide) (fun hown hts hnw => Or.inl (hts _ (tm4 101 (by decide +kernel) (by decide +kernel)))) ?_
    refine aw_sacmp_ne (off := 6) (tgt := 20) (by decide +kernel) (by decide) ht0 (show SG 1018 from ⟨by decide, by decide⟩) (fun hc => ?_) (fun hc => ?_)
    · have hF := hF.1 hc
      refine aw_aload_n (k' := 0) (by decide +kernel) rfl ?_
      refine aw_sign' (idx := 89) (i := 19) (r := 1019) (by decide +kernel) (by decide) (by decide) (fun hown hts hnw => Or.inl (hts _ (tm4 103 (by decide +kernel) (by decide +kernel)))) ?_
      refine aw_sacmp_ne (off := 8) (tgt := 32) (by decide +kernel) (by decide) ht0 (show SG 1019 from ⟨by decide, by decide⟩) (fun hc => ?_) (fun hc => ?_)
      · have hF := hF.1 hc
        refine aw_iconst (n := -1) (by decide +kernel) ?_
        exact aw_iret (by decide +kernel) rfl hF
      · have hF := hF.2 hc
        refine aw_bipush (n := 10) (by decide +kernel) (by decide +kernel) ?_
        refine aw_goto (off := 4) (tgt := 33) (by decide +kernel) (by decide) ?_
        exact aw_iret (by decide +kernel) rfl hF
    · have hF := hF.2 hc
      refine aw_bipush (n := 9) (by decide +kernel) (by decide +kernel) ?_
      exact aw_iret (by decide +kernel) rfl hF
  · have hF := hF.2 hc
    refine aw_bipush (n := 8) (by decide +kernel) (by decide +kernel) ?_
    exact aw_iret (by decide +kernel) rfl hF

set_option maxHeartbeats 1000000 in
theorem wpX4_readAny {Γ : Cfg} {l : Launch} {d b : Nat} {g : GG} {K : Ou → HP → Prop} {t0 : Int} (ht0 : LA t0) {x2 : Int} (hF : Ct Γ l d 0 yX4_readAll mX4_readAll [vR t0, vR 4, vI x2] (stt g) (bI (fun v1 g1 => (¬ wr v1 = 0 → AW Γ l mX4_readAny (d + 1) b 13 [vR t0, vR 4, vI x2, vI 0] [] (stt g1) K) ∧ (¬ (¬ wr v1 = 0) → K (.inl (vI 0)) (stt g1))) K)) : Ct Γ l (d + 1) b yX4_readAny mX4_readAny [vR t0, vR 4, vI x2] (stt g) K := by
  refine Ct.enter (L := [vR t0, vR 4, vI x2, vU]) rfl rfl rfl (by decide +kernel) (by simp [oneSlot]) (Nat.le_of_ble_eq_true rfl) rfl ?_
  refine aw_aload_n (k' := 0) (by decide +kernel) rfl ?_
  refine aw_aload_n (k' := 1) (by decide +kernel) rfl ?_
  refine aw_iload_n (k' := 2) (by decide +kernel) rfl ?_
  refine aw_callS (y := yX4_readAll) (M2 := mX4_readAll) (as := [vR t0, vR 4, vI x2]) (S := []) (d2 := d) (b2 := 0) (b3 := b) cwX4_readAll mlX4_92 stX4_readAll (by decide +kernel) rfl (Nat.le_refl _) (Nat.le_of_eq (Nat.zero_add _)) rfl rfl (by simp [oneSlot]) (Nat.le_of_ble_eq_true rfl) (Ct.mono hF ?_)
  rintro o h' (⟨v1, g1, rfl, rfl, hG⟩ | ⟨E, g, rfl, rfl, hG⟩)
  · show AW Γ l mX4_readAny (d + 1) b 6 [vR t0, vR 4, vI x2, vU] [vI v1] (stt g1) K
    refine ax_if_ne (off := 5) (tgt := 11) (x' := wr v1) (by decide +kernel) (by decide) rfl (fun hc => ?_) (fun hc => ?_)
    · have hG := hG.1 hc
      refine aw_iconst (n := 0) (by decide +kernel) ?_
      refine aw_istore_n (k' := 3) (by decide +kernel) (by decide) ?_
      show AW Γ l mX4_readAny (d + 1) b 13 [vR t0, vR 4, vI x2, vI 0] [] (stt g1) K
      exact hG
    · have hG := hG.2 hc
      refine aw_iconst (n := 0) (by decide +kernel) ?_
      exact aw_zret (by decide +kernel) rfl rfl hG
  · exact hG
set_option maxHeartbeats 1000000 in
theorem wpX4_readAny_13 {Γ : Cfg} {l : Launch} {d b : Nat} {g : GG} {K : Ou → HP → Prop} {t0 : Int} (ht0 : LA t0) {x2 : Int} {y3 : Int} (hF : (400 ≤ wr y3 → K (.inl (vI 1)) (stt g)) ∧ (¬ (400 ≤ wr y3) → (SG (g 4 4)) ∧ ((¬ g 4 4 = 1020 → K (.inl (vI 1)) (stt g)) ∧ (g 4 4 = 1020 → Ct Γ l d 0 yX10_step mX10_step [vR 4] (stt g) (bV (fun g1 => Ct Γ l d 0 yX4_readAll mX4_readAll [vR t0, vR 4, vI x2] (stt g1) (bI (fun v1 g2 => (¬ wr v1 = 0 → Ct Γ l d 0 yX4_emit mX4_emit [vR t0, vI 7, vI 0] (stt g2) (bV (fun g3 => AW Γ l mX4_readAny (d + 1) b 13 [vR t0, vR 4, vI x2, vI (y3 + 1)] [] (stt g3) K) K)) ∧ (¬ (¬ wr v1 = 0) → K (.inl (vI 0)) (stt g2))) K)) K))))) : AW Γ l mX4_readAny (d + 1) b 13 [vR t0, vR 4, vI x2, vI y3] [] (stt g) K := by
  refine aw_iload_n (k' := 3) (by decide +kernel) rfl ?_
  refine aw_sipush (n := 400) (by decide +kernel) (by decide +kernel) ?_
  refine ax_icmp_ge (off := 41) (tgt := 58) (x' := wr y3) (y' := 400) (by decide +kernel) (by decide) rfl (by decide +kernel) (fun hc => ?_) (fun hc => ?_)
  · have hF := hF.1 hc
    refine aw_iconst (n := 1) (by decide +kernel) ?_
    exact aw_zret (by decide +kernel) rfl rfl hF
  · have hF := hF.2 hc
    refine aw_aload_n (k' := 1) (by decide +kernel) rfl ?_
    refine gfX4_44 rfl (by decide +kernel) (OB.at (ci := 8) (show shp 4 = (18, 0) by decide +kernel) (by decide)) ?_
    refine aw_sign' (idx := 95) (i := 20) (r := 1020) (by decide +kernel) (by decide) (by decide) (fun hown hts hnw => Or.inl (hts _ (tm4 148 (by decide +kernel) (by decide +kernel)))) ?_
    refine aw_sacmp_ne (off := 31) (tgt := 58) (by decide +kernel) (by decide) hF.1 (show SG 1020 from ⟨by decide, by decide⟩) (fun hc => ?_) (fun hc => ?_)
    all_goals replace hF := hF.2
    · have hF := hF.1 hc
      refine aw_iconst (n := 1) (by decide +kernel) ?_
      exact aw_zret (by decide +kernel) rfl rfl hF
    · have hF := hF.2 hc
      refine aw_aload_n (k' := 1) (by decide +kernel) rfl ?_
      refine aw_callV (y := yX10_step) (M2 := mX10_step) (as := []) (S := []) (t := 4) (d2 := d) (b2 := 0) (b3 := b) cwX10_step mlX4_59 imX10_step seX10_step (by decide +kernel) rfl (ci := 8) rfl (OB.at (ci := 8) (show shp 4 = (18, 0) by decide +kernel) (by decide)) (Nat.le_refl _) (Nat.le_of_eq (Nat.zero_add _)) rfl rfl (by simp [oneSlot]) (Nat.le_of_ble_eq_true rfl) (Ct.mono hF ?_)
      rintro o h' (⟨g1, rfl, rfl, hG⟩ | ⟨E, g, rfl, rfl, hG⟩)
      · show AW Γ l mX4_readAny (d + 1) b 34 [vR t0, vR 4, vI x2, vI y3] [] (stt g1) K
        refine aw_aload_n (k' := 0) (by decide +kernel) rfl ?_
        refine aw_aload_n (k' := 1) (by decide +kernel) rfl ?_
        refine aw_iload_n (k' := 2) (by decide +kernel) rfl ?_
        refine aw_callS (y := yX4_readAll) (M2 := mX4_readAll) (as := [vR t0, vR 4, vI x2]) (S := []) (d2 := d) (b2 := 0) (b3 := b) cwX4_readAll mlX4_92 stX4_readAll (by decide +kernel) rfl (Nat.le_refl _) (Nat.le_of_eq (Nat.zero_add _)) rfl rfl (by simp [oneSlot]) (Nat.le_of_ble_eq_true rfl) (Ct.mono hG ?_)
        rintro o h' (⟨v1, g2, rfl, rfl, hG⟩ | ⟨E, g, rfl, rfl, hG⟩)
        · show AW Γ l mX4_readAny (d + 1) b 40 [vR t0, vR 4, vI x2, vI y3] [vI v1] (stt g2) K
          refine ax_if_ne (off := 5) (tgt := 45) (x' := wr v1) (by decide +kernel) (by decide) rfl (fun hc => ?_) (fun hc => ?_)
          · have hG := hG.1 hc
            refine aw_aload_n (k' := 0) (by decide +kernel) rfl ?_
            refine aw_bipush (n := 7) (by decide +kernel) (by decide +kernel) ?_
            refine aw_iconst (n := 0) (by decide +kernel) ?_
            refine aw_callV (y := yX4_emit) (M2 := mX4_emit) (as := [vI 7, vI 0]) (S := []) (t := t0) (d2 := d) (b2 := 0) (b3 := b) cwX4_emit mlX4_72 imX4_emit seX4_emit (by decide +kernel) rfl (ci := 3) rfl (OB.at ht0.ob (by decide)) (Nat.le_refl _) (Nat.le_of_eq (Nat.zero_add _)) rfl rfl (by simp [oneSlot]) (Nat.le_of_ble_eq_true rfl) (Ct.mono hG ?_)
            rintro o h' (⟨g3, rfl, rfl, hG⟩ | ⟨E, g, rfl, rfl, hG⟩)
            · show AW Γ l mX4_readAny (d + 1) b 52 [vR t0, vR 4, vI x2, vI y3] [] (stt g3) K
              refine aw_iinc (i := 3) (n := 1) (by decide +kernel) rfl (by decide) ?_
              show AW Γ l mX4_readAny (d + 1) b 55 [vR t0, vR 4, vI x2, vI (y3 + 1)] [] (stt g3) K
              refine aw_goto (off := -42) (tgt := 13) (by decide +kernel) (by decide) ?_
              exact hG
            · exact hG
          · have hG := hG.2 hc
            refine aw_iconst (n := 0) (by decide +kernel) ?_
            exact aw_zret (by decide +kernel) rfl rfl hG
        · exact hG
      · exact hG

set_option maxHeartbeats 1000000 in
theorem wpX4_readAll {Γ : Cfg} {l : Launch} {d b : Nat} {g : GG} {K : Ou → HP → Prop} {t0 : Int} (ht0 : LA t0) {x2 : Int} (hF : Ct Γ l d 0 yX4_readAtom mX4_readAtom [vR t0, vR 4, vI x2] (stt g) (bI (fun v1 g1 => (¬ wr v1 = 0 → AW Γ l mX4_readAll (d + 1) b 13 [vR t0, vR 4, vI x2, vI 0] [] (stt g1) K) ∧ (¬ (¬ wr v1 = 0) → K (.inl (vI 0)) (stt g1))) K)) : Ct Γ l (d + 1) b yX4_readAll mX4_readAll [vR t0, vR 4, vI x2] (stt g) K := by
  refine Ct.enter (L := [vR t0, vR 4, vI x2, vU]) rfl rfl rfl (by decide +kernel) (by simp [oneSlot]) (Nat.le_of_ble_eq_true rfl) rfl ?_
  refine aw_aload_n (k' := 0) (by decide +kernel) rfl ?_
  refine aw_aload_n (k' := 1) (by decide +kernel) rfl ?_
  refine aw_iload_n (k' := 2) (by decide +kernel) rfl ?_
  refine aw_callS (y := yX4_readAtom) (M2 := mX4_readAtom) (as := [vR t0, vR 4, vI x2]) (S := []) (d2 := d) (b2 := 0) (b3 := b) cwX4_readAtom mlX4_98 stX4_readAtom (by decide +kernel) rfl (Nat.le_refl _) (Nat.le_of_eq (Nat.zero_add _)) rfl rfl (by simp [oneSlot]) (Nat.le_of_ble_eq_true rfl) (Ct.mono hF ?_)
  rintro o h' (⟨v1, g1, rfl, rfl, hG⟩ | ⟨E, g, rfl, rfl, hG⟩)
  · show AW Γ l mX4_readAll (d + 1) b 6 [vR t0, vR 4, vI x2, vU] [vI v1] (stt g1) K
    refine ax_if_ne (off := 5) (tgt := 11) (x' := wr v1) (by decide +kernel) (by decide) rfl (fun hc => ?_) (fun hc => ?_)
    · have hG := hG.1 hc
      refine aw_iconst (n := 0) (by decide +kernel) ?_
      refine aw_istore_n (k' := 3) (by decide +kernel) (by decide) ?_
      show AW Γ l mX4_readAll (d + 1) b 13 [vR t0, vR 4, vI x2, vI 0] [] (stt g1) K
      exact hG
    · have hG := hG.2 hc
      refine aw_iconst (n := 0) (by decide +kernel) ?_
      exact aw_zret (by decide +kernel) rfl rfl hG
  · exact hG
set_option maxHeartbeats 1000000 in
theorem wpX4_readAll_13 {Γ : Cfg} {l : Launch} {d b : Nat} {g : GG} {K : Ou → HP → Prop} {t0 : Int} (ht0 : LA t0) {x2 : Int} {y3 : Int} (hF : (400 ≤ wr y3 → K (.inl (vI 1)) (stt g)) ∧ (¬ (400 ≤ wr y3) → (SG (g 4 4)) ∧ ((¬ g 4 4 = 1021 → K (.inl (vI 1)) (stt g)) ∧ (g 4 4 = 1021 → Ct Γ l d 0 yX10_step mX10_step [vR 4] (stt g) (bV (fun g1 => Ct Γ l d 0 yX4_readAtom mX4_readAtom [vR t0, vR 4, vI x2] (stt g1) (bI (fun v1 g2 => (¬ wr v1 = 0 → Ct Γ l d 0 yX4_emit mX4_emit [vR t0, vI 6, vI 0] (stt g2) (bV (fun g3 => AW Γ l mX4_readAll (d + 1) b 13 [vR t0, vR 4, vI x2, vI (y3 + 1)] [] (stt g3) K) K)) ∧ (¬ (¬ wr v1 = 0) → K (.inl (vI 0)) (stt g2))) K)) K))))) : AW Γ l mX4_readAll (d + 1) b 13 [vR t0, vR 4, vI x2, vI y3] [] (stt g) K := by
  refine aw_iload_n (k' := 3) (by decide +kernel) rfl ?_
  refine aw_sipush (n := 400) (by decide +kernel) (by decide +kernel) ?_
  refine ax_icmp_ge (off := 41) (tgt := 58) (x' := wr y3) (y' := 400) (by decide +kernel) (by decide) rfl (by decide +kernel) (fun hc => ?_) (fun hc => ?_)
  · have hF := hF.1 hc
    refine aw_iconst (n := 1) (by decide +kernel) ?_
    exact aw_zret (by decide +kernel) rfl rfl hF
  · have hF := hF.2 hc
    refine aw_aload_n (k' := 1) (by decide +kernel) rfl ?_
    refine gfX4_44 rfl (by decide +kernel) (OB.at (ci := 8) (show shp 4 = (18, 0) by decide +kernel) (by decide)) ?_
    refine aw_sign' (idx := 101) (i := 21) (r := 1021) (by decide +kernel) (by decide) (by decide) (fun hown hts hnw => Or.inl (hts _ (tm4 146 (by decide +kernel) (by decide +kernel)))) ?_
    refine aw_sacmp_ne (off := 31) (tgt := 58) (by decide +kernel) (by decide) hF.1 (show SG 1021 from ⟨by decide, by decide⟩) (fun hc => ?_) (fun hc => ?_)
    all_goals replace hF := hF.2
    · have hF := hF.1 hc
      refine aw_iconst (n := 1) (by decide +kernel) ?_
      exact aw_zret (by decide +kernel) rfl rfl hF
    · have hF := hF.2 hc
      refine aw_aload_n (k' := 1) (by decide +kernel) rfl ?_
      refine aw_callV (y := yX10_step) (M2 := mX10_step) (as := []) (S := []) (t := 4) (d2 := d) (b2 := 0) (b3 := b) cwX10_step mlX4_59 imX10_step seX10_step (by decide +kernel) rfl (ci := 8) rfl (OB.at (ci := 8) (show shp 4 = (18, 0) by decide +kernel) (by decide)) (Nat.le_refl _) (Nat.le_of_eq (Nat.zero_add _)) rfl rfl (by simp [oneSlot]) (Nat.le_of_ble_eq_true rfl) (Ct.mono hF ?_)
      rintro o h' (⟨g1, rfl, rfl, hG⟩ | ⟨E, g, rfl, rfl, hG⟩)
      · show AW Γ l mX4_readAll (d + 1) b 34 [vR t0, vR 4, vI x2, vI y3] [] (stt g1) K
        refine aw_aload_n (k' := 0) (by decide +kernel) rfl ?_
        refine aw_aload_n (k' := 1) (by decide +kernel) rfl ?_
        refine aw_iload_n (k' := 2) (by decide +kernel) rfl ?_
        refine aw_callS (y := yX4_readAtom) (M2 := mX4_readAtom) (as := [vR t0, vR 4, vI x2]) (S := []) (d2 := d) (b2 := 0) (b3 := b) cwX4_readAtom mlX4_98 stX4_readAtom (by decide +kernel) rfl (Nat.le_refl _) (Nat.le_of_eq (Nat.zero_add _)) rfl rfl (by simp [oneSlot]) (Nat.le_of_ble_eq_true rfl) (Ct.mono hG ?_)
        rintro o h' (⟨v1, g2, rfl, rfl, hG⟩ | ⟨E, g, rfl, rfl, hG⟩)
        · show AW Γ l mX4_readAll (d + 1) b 40 [vR t0, vR 4, vI x2, vI y3] [vI v1] (stt g2) K
          refine ax_if_ne (off := 5) (tgt := 45) (x' := wr v1) (by decide +kernel) (by decide) rfl (fun hc => ?_) (fun hc => ?_)
          · have hG := hG.1 hc
            refine aw_aload_n (k' := 0) (by decide +kernel) rfl ?_
            refine aw_bipush (n := 6) (by decide +kernel) (by decide +kernel) ?_
            refine aw_iconst (n := 0) (by decide +kernel) ?_
            refine aw_callV (y := yX4_emit) (M2 := mX4_emit) (as := [vI 6, vI 0]) (S := []) (t := t0) (d2 := d) (b2 := 0) (b3 := b) cwX4_emit mlX4_72 imX4_emit seX4_emit (by decide +kernel) rfl (ci := 3) rfl (OB.at ht0.ob (by decide)) (Nat.le_refl _) (Nat.le_of_eq (Nat.zero_add _)) rfl rfl (by simp [oneSlot]) (Nat.le_of_ble_eq_true rfl) (Ct.mono hG ?_)
            rintro o h' (⟨g3, rfl, rfl, hG⟩ | ⟨E, g, rfl, rfl, hG⟩)
            · show AW Γ l mX4_readAll (d + 1) b 52 [vR t0, vR 4, vI x2, vI y3] [] (stt g3) K
              refine aw_iinc (i := 3) (n := 1) (by decide +kernel) rfl (by decide) ?_
              show AW Γ l mX4_readAll (d + 1) b 55 [vR t0, vR 4, vI x2, vI (y3 + 1)] [] (stt g3) K
              refine aw_goto (off := -42) (tgt := 13) (by decide +kernel) (by decide) ?_
              exact hG
            · exact hG
          · have hG := hG.2 hc
            refine aw_iconst (n := 0) (by decide +kernel) ?_
            exact aw_zret (by decide +kernel) rfl rfl hG
        · exact hG
      · exact hG

set_option maxHeartbeats 1000000 in
theorem wpX4_readAtom {Γ : Cfg} {l : Launch} {d b : Nat} {g : GG} {K : Ou → HP → Prop} {t0 : Int} (ht0 : LA t0) {x2 : Int} (hF : (SG (g 4 4)) ∧ ((¬ g 4 4 = 1005 → (SG (g 4 4)) ∧ ((¬ g 4 4 = 1031 → (SG (g 4 4)) ∧ ((sgF (g 4 4) = 7 ∨ sgF (g 4 4) = 8 ∨ sgF (g 4 4) = 9 → (SG (g 4 4)) ∧ (Ct Γ l d 0 yX4_emit mX4_emit [vR t0, vI 1, vI (sgF (g 4 4))] (stt g) (bV (fun g1 => Ct Γ l d 0 yX10_step mX10_step [vR 4] (stt g1) (bV (fun g2 => K (.inl (vI 1)) (stt g2)) K)) K))) ∧ (¬ (sgF (g 4 4) = 7 ∨ sgF (g 4 4) = 8 ∨ sgF (g 4 4) = 9) → Ct Γ l d 0 yX4_readComparison mX4_readComparison [vR t0, vR 4] (stt g) (bI (fun v1 g3 => (wr v1 = 0 ∨ wr v1 = 1) ∧ K (.inl (vI v1)) (stt g3)) K)))) ∧ (g 4 4 = 1031 → (wr x2 < 6 → Ct Γ l d 0 yX10_step mX10_step [vR 4] (stt g) (bV (fun g4 => Ct Γ l d 0 yX4_readAny mX4_readAny [vR t0, vR 4, vI (x2 + 1)] (stt g4) (bI (fun v2 g5 => (wr v2 = 0 → K (.inl (vI 0)) (stt g5)) ∧ (¬ (wr v2 = 0) → (SG (g5 4 4)) ∧ ((g5 4 4 = 1032 → Ct Γ l d 0 yX10_step mX10_step [vR 4] (stt g5) (bV (fun g6 => K (.inl (vI 1)) (stt g6)) K)) ∧ (¬ g5 4 4 = 1032 → K (.inl (vI 0)) (stt g5))))) K)) K)) ∧ (¬ (wr x2 < 6) → K (.inl (vI 0)) (stt g))))) ∧ (g 4 4 = 1005 → (wr x2 < 6 → Ct Γ l d 0 yX10_step mX10_step [vR 4] (stt g) (bV (fun g7 => Ct Γ l d 0 yX4_readAtom mX4_readAtom [vR t0, vR 4, vI (x2 + 1)] (stt g7) (bI (fun v3 g8 => (¬ wr v3 = 0 → Ct Γ l d 0 yX4_emit mX4_emit [vR t0, vI 5, vI 0] (stt g8) (bV (fun g9 => K (.inl (vI 1)) (stt g9)) K)) ∧ (¬ (¬ wr v3 = 0) → K (.inl (vI 0)) (stt g8))) K)) K)) ∧ (¬ (wr x2 < 6) → K (.inl (vI 0)) (stt g))))) : Ct Γ l (d + 1) b yX4_readAtom mX4_readAtom [vR t0, vR 4, vI x2] (stt g) K := by
  refine Ct.enter (L := [vR t0, vR 4, vI x2, vU]) rfl rfl rfl (by decide +kernel) (by simp [oneSlot]) (Nat.le_of_ble_eq_true rfl) rfl ?_
  refine aw_aload_n (k' := 1) (by decide +kernel) rfl ?_
  refine gfX4_44 rfl (by decide +kernel) (OB.at (ci := 8) (show shp 4 = (18, 0) by decide +kernel) (by decide)) ?_
  refine aw_sign' (idx := 104) (i := 5) (r := 1005) (by decide +kernel) (by decide) (by decide) (fun hown hts hnw => Or.inl (hts _ (tm4 122 (by decide +kernel) (by decide +kernel)))) ?_
  refine aw_sacmp_ne (off := 7) (tgt := 14) (by decide +kernel) (by decide) hF.1 (show SG 1005 from ⟨by decide, by decide⟩) (fun hc => ?_) (fun hc => ?_)
  all_goals replace hF := hF.2
  · have hF := hF.1 hc
    refine aw_iconst (n := 0) (by decide +kernel) ?_
    refine aw_istore_n (k' := 3) (by decide +kernel) (by decide) ?_
    show AW Γ l mX4_readAtom (d + 1) b 16 [vR t0, vR 4, vI x2, vI 0] [] (stt g) K
    refine aw_iload_n (k' := 3) (by decide +kernel) rfl ?_
    refine ax_if_ne (off := 13) (tgt := 30) (x' := 0) (by decide +kernel) (by decide) (by decide +kernel) (fun hc => absurd hc (by decide)) (fun hc => ?_)
    refine aw_aload_n (k' := 1) (by decide +kernel) rfl ?_
    refine gfX4_44 rfl (by decide +kernel) (OB.at (ci := 8) (show shp 4 = (18, 0) by decide +kernel) (by decide)) ?_
    refine aw_sign' (idx := 107) (i := 31) (r := 1031) (by decide +kernel) (by decide) (by decide) (fun hown hts hnw => Or.inl (hts _ (tm4 124 (by decide +kernel) (by decide +kernel)))) ?_
    refine aw_sacmp_ne (off := 69) (tgt := 96) (by decide +kernel) (by decide) hF.1 (show SG 1031 from ⟨by decide, by decide⟩) (fun hc => ?_) (fun hc => ?_)
    all_goals replace hF := hF.2
    · have hF := hF.1 hc
      refine aw_aload_n (k' := 1) (by decide +kernel) rfl ?_
      refine gfX4_44 rfl (by decide +kernel) (OB.at (ci := 8) (show shp 4 = (18, 0) by decide +kernel) (by decide)) ?_
      refine aw_callO (y := yX8_isFlag) (M2 := mX8_isFlag) (as := []) (S := []) (r := (g 4 4)) (d2 := d) (b2 := 0) (b3 := b) cwX8_isFlag mlX4_113 imX8_isFlag seX8_isFlag (by decide +kernel) rfl (by have := (hF.1).1; omega) (fun hS => recSG hF.1 hS) (Nat.le_refl _) (Nat.le_of_eq (Nat.zero_add _)) rfl rfl (by simp [oneSlot]) (Nat.le_of_ble_eq_true rfl) (c_isFlag hF.1 (fun hc => ?_) (fun hc => ?_))
      all_goals replace hF := hF.2
      · have hF := hF.1 hc
        show AW Γ l mX4_readAtom (d + 1) b 103 [vR t0, vR 4, vI x2, vI 0] [vI 1] (stt g) K
        refine ax_if_eq (off := 21) (tgt := 124) (x' := 1) (by decide +kernel) (by decide) (by decide +kernel) (fun hc => absurd hc (by decide)) (fun hc => ?_)
        refine aw_aload_n (k' := 0) (by decide +kernel) rfl ?_
        refine aw_iconst (n := 1) (by decide +kernel) ?_
        refine aw_aload_n (k' := 1) (by decide +kernel) rfl ?_
        refine gfX4_44 rfl (by decide +kernel) (OB.at (ci := 8) (show shp 4 = (18, 0) by decide +kernel) (by decide)) ?_
        refine aw_stf (idx := 117) (v := vI (sgF (g 4 4))) (hF.1).1 (fun hS => ofSGf hF.1 hS) (fun hown hts hnw => Or.inr ⟨"HalfOaths", va_Nw.use rfl (hnw _ (tn9 136 (by decide +kernel) (by decide +kernel)))⟩) (by decide +kernel) ?_
        replace hF := hF.2
        refine aw_callV (y := yX4_emit) (M2 := mX4_emit) (as := [vI 1, vI (sgF (g 4 4))]) (S := []) (t := t0) (d2 := d) (b2 := 0) (b3 := b) cwX4_emit mlX4_72 imX4_emit seX4_emit (by decide +kernel) rfl (ci := 3) rfl (OB.at ht0.ob (by decide)) (Nat.le_refl _) (Nat.le_of_eq (Nat.zero_add _)) rfl rfl (by simp [oneSlot]) (Nat.le_of_ble_eq_true rfl) (Ct.mono hF ?_)
        rintro o h' (⟨g1, rfl, rfl, hG⟩ | ⟨E, g, rfl, rfl, hG⟩)
        · show AW Γ l mX4_readAtom (d + 1) b 118 [vR t0, vR 4, vI x2, vI 0] [] (stt g1) K
          refine aw_aload_n (k' := 1) (by decide +kernel) rfl ?_
          refine aw_callV (y := yX10_step) (M2 := mX10_step) (as := []) (S := []) (t := 4) (d2 := d) (b2 := 0) (b3 := b) cwX10_step mlX4_59 imX10_step seX10_step (by decide +kernel) rfl (ci := 8) rfl (OB.at (ci := 8) (show shp 4 = (18, 0) by decide +kernel) (by decide)) (Nat.le_refl _) (Nat.le_of_eq (Nat.zero_add _)) rfl rfl (by simp [oneSlot]) (Nat.le_of_ble_eq_true rfl) (Ct.mono hG ?_)
          rintro o h' (⟨g2, rfl, rfl, hG⟩ | ⟨E, g, rfl, rfl, hG⟩)
          · show AW Γ l mX4_readAtom (d + 1) b 122 [vR t0, vR 4, vI x2, vI 0] [] (stt g2) K
            refine aw_iconst (n := 1) (by decide +kernel) ?_
            exact aw_zret (by decide +kernel) rfl rfl hG
          · exact hG
        · exact hG
      · have hF := hF.2 hc
        show AW Γ l mX4_readAtom (d + 1) b 103 [vR t0, vR 4, vI x2, vI 0] [vI 0] (stt g) K
        refine ax_if_eq (off := 21) (tgt := 124) (x' := 0) (by decide +kernel) (by decide) (by decide +kernel) (fun hc => ?_) (fun hc => absurd (by decide) hc)
        refine aw_aload_n (k' := 0) (by decide +kernel) rfl ?_
        refine aw_aload_n (k' := 1) (by decide +kernel) rfl ?_
        refine aw_callS (y := yX4_readComparison) (M2 := mX4_readComparison) (as := [vR t0, vR 4]) (S := []) (d2 := d) (b2 := 0) (b3 := b) cwX4_readComparison mlX4_120 stX4_readComparison (by decide +kernel) rfl (Nat.le_refl _) (Nat.le_of_eq (Nat.zero_add _)) rfl rfl (by simp [oneSlot]) (Nat.le_of_ble_eq_true rfl) (Ct.mono hF ?_)
        rintro o h' (⟨v1, g3, rfl, rfl, hG⟩ | ⟨E, g, rfl, rfl, hG⟩)
        · show AW Γ l mX4_readAtom (d + 1) b 129 [vR t0, vR 4, vI x2, vI 0] [vI v1] (stt g3) K
          exact aw_zret (by decide +kernel) rfl (nar_z hG.1) hG.2
        · exact hG
    · have hF := hF.2 hc
      refine aw_iload_n (k' := 2) (by decide +kernel) rfl ?_
      refine aw_bipush (n := 6) (by decide +kernel) (by decide +kernel) ?_
      refine ax_icmp_lt (off := 5) (tgt := 38) (x' := wr x2) (y' := 6) (by decide +kernel) (by decide) rfl (by decide +kernel) (fun hc => ?_) (fun hc => ?_)
      · have hF := hF.1 hc
        refine aw_aload_n (k' := 1) (by decide +kernel) rfl ?_
        refine aw_callV (y := yX10_step) (M2 := mX10_step) (as := []) (S := []) (t := 4) (d2 := d) (b2 := 0) (b3 := b) cwX10_step mlX4_59 imX10_step seX10_step (by decide +kernel) rfl (ci := 8) rfl (OB.at (ci := 8) (show shp 4 = (18, 0) by decide +kernel) (by decide)) (Nat.le_refl _) (Nat.le_of_eq (Nat.zero_add _)) rfl rfl (by simp [oneSlot]) (Nat.le_of_ble_eq_true rfl) (Ct.mono hF ?_)
        rintro o h' (⟨g4, rfl, rfl, hG⟩ | ⟨E, g, rfl, rfl, hG⟩)
        · show AW Γ l mX4_readAtom (d + 1) b 42 [vR t0, vR 4, vI x2, vI 0] [] (stt g4) K
          refine aw_iload_n (k' := 3) (by decide +kernel) rfl ?_
          refine ax_if_eq (off := 24) (tgt := 67) (x' := 0) (by decide +kernel) (by decide) (by decide +kernel) (fun hc => ?_) (fun hc => absurd (by decide) hc)
          refine aw_aload_n (k' := 0) (by decide +kernel) rfl ?_
          refine aw_aload_n (k' := 1) (by decide +kernel) rfl ?_
          refine aw_iload_n (k' := 2) (by decide +kernel) rfl ?_
          refine aw_iconst (n := 1) (by decide +kernel) ?_
          refine aw_iadd (by decide +kernel) ?_
          refine aw_callS (y := yX4_readAny) (M2 := mX4_readAny) (as := [vR t0, vR 4, vI (x2 + 1)]) (S := []) (d2 := d) (b2 := 0) (b3 := b) cwX4_readAny mlX4_76 stX4_readAny (by decide +kernel) rfl (Nat.le_refl _) (Nat.le_of_eq (Nat.zero_add _)) rfl rfl (by simp [oneSlot]) (Nat.le_of_ble_eq_true rfl) (Ct.mono hG ?_)
          rintro o h' (⟨v2, g5, rfl, rfl, hG⟩ | ⟨E, g, rfl, rfl, hG⟩)
          · show AW Γ l mX4_readAtom (d + 1) b 75 [vR t0, vR 4, vI x2, vI 0] [vI v2] (stt g5) K
            refine ax_if_eq (off := 13) (tgt := 88) (x' := wr v2) (by decide +kernel) (by decide) rfl (fun hc => ?_) (fun hc => ?_)
            · have hG := hG.1 hc
              refine aw_iconst (n := 0) (by decide +kernel) ?_
              exact aw_zret (by decide +kernel) rfl rfl hG
            · have hG := hG.2 hc
              refine aw_aload_n (k' := 1) (by decide +kernel) rfl ?_
              refine gfX4_44 rfl (by decide +kernel) (OB.at (ci := 8) (show shp 4 = (18, 0) by decide +kernel) (by decide)) ?_
              refine aw_sign' (idx := 110) (i := 32) (r := 1032) (by decide +kernel) (by decide) (by decide) (fun hown hts hnw => Or.inl (hts _ (tm4 126 (by decide +kernel) (by decide +kernel)))) ?_
              refine aw_sacmp_eq (off := 5) (tgt := 90) (by decide +kernel) (by decide) hG.1 (show SG 1032 from ⟨by decide, by decide⟩) (fun hc => ?_) (fun hc => ?_)
              all_goals replace hG := hG.2
              · have hG := hG.1 hc
                refine aw_aload_n (k' := 1) (by decide +kernel) rfl ?_
                refine aw_callV (y := yX10_step) (M2 := mX10_step) (as := []) (S := []) (t := 4) (d2 := d) (b2 := 0) (b3 := b) cwX10_step mlX4_59 imX10_step seX10_step (by decide +kernel) rfl (ci := 8) rfl (OB.at (ci := 8) (show shp 4 = (18, 0) by decide +kernel) (by decide)) (Nat.le_refl _) (Nat.le_of_eq (Nat.zero_add _)) rfl rfl (by simp [oneSlot]) (Nat.le_of_ble_eq_true rfl) (Ct.mono hG ?_)
                rintro o h' (⟨g6, rfl, rfl, hG⟩ | ⟨E, g, rfl, rfl, hG⟩)
                · show AW Γ l mX4_readAtom (d + 1) b 94 [vR t0, vR 4, vI x2, vI 0] [] (stt g6) K
                  refine aw_iconst (n := 1) (by decide +kernel) ?_
                  exact aw_zret (by decide +kernel) rfl rfl hG
                · exact hG
              · have hG := hG.2 hc
                refine aw_iconst (n := 0) (by decide +kernel) ?_
                exact aw_zret (by decide +kernel) rfl rfl hG
          · exact hG
        · exact hG
      · have hF := hF.2 hc
        refine aw_iconst (n := 0) (by decide +kernel) ?_
        exact aw_zret (by decide +kernel) rfl rfl hF
  · have hF := hF.2 hc
    refine aw_iconst (n := 1) (by decide +kernel) ?_
    refine aw_goto (off := 4) (tgt := 15) (by decide +kernel) (by decide) ?_
    refine aw_istore_n (k' := 3) (by decide +kernel) (by decide) ?_
    show AW Γ l mX4_readAtom (d + 1) b 16 [vR t0, vR 4, vI x2, vI 1] [] (stt g) K
    refine aw_iload_n (k' := 3) (by decide +kernel) rfl ?_
    refine ax_if_ne (off := 13) (tgt := 30) (x' := 1) (by decide +kernel) (by decide) (by decide +kernel) (fun hc => ?_) (fun hc => absurd (by decide) hc)
    refine aw_iload_n (k' := 2) (by decide +kernel) rfl ?_
    refine aw_bipush (n := 6) (by decide +kernel) (by decide +kernel) ?_
    refine ax_icmp_lt (off := 5) (tgt := 38) (x' := wr x2) (y' := 6) (by decide +kernel) (by decide) rfl (by decide +kernel) (fun hc => ?_) (fun hc => ?_)
    · have hF := hF.1 hc
      refine aw_aload_n (k' := 1) (by decide +kernel) rfl ?_
      refine aw_callV (y := yX10_step) (M2 := mX10_step) (as := []) (S := []) (t := 4) (d2 := d) (b2 := 0) (b3 := b) cwX10_step mlX4_59 imX10_step seX10_step (by decide +kernel) rfl (ci := 8) rfl (OB.at (ci := 8) (show shp 4 = (18, 0) by decide +kernel) (by decide)) (Nat.le_refl _) (Nat.le_of_eq (Nat.zero_add _)) rfl rfl (by simp [oneSlot]) (Nat.le_of_ble_eq_true rfl) (Ct.mono hF ?_)
      rintro o h' (⟨g7, rfl, rfl, hG⟩ | ⟨E, g, rfl, rfl, hG⟩)
      · show AW Γ l mX4_readAtom (d + 1) b 42 [vR t0, vR 4, vI x2, vI 1] [] (stt g7) K
        refine aw_iload_n (k' := 3) (by decide +kernel) rfl ?_
        refine ax_if_eq (off := 24) (tgt := 67) (x' := 1) (by decide +kernel) (by decide) (by decide +kernel) (fun hc => absurd hc (by decide)) (fun hc => ?_)
        refine aw_aload_n (k' := 0) (by decide +kernel) rfl ?_
        refine aw_aload_n (k' := 1) (by decide +kernel) rfl ?_
        refine aw_iload_n (k' := 2) (by decide +kernel) rfl ?_
        refine aw_iconst (n := 1) (by decide +kernel) ?_
        refine aw_iadd (by decide +kernel) ?_
        refine aw_callS (y := yX4_readAtom) (M2 := mX4_readAtom) (as := [vR t0, vR 4, vI (x2 + 1)]) (S := []) (d2 := d) (b2 := 0) (b3 := b) cwX4_readAtom mlX4_98 stX4_readAtom (by decide +kernel) rfl (Nat.le_refl _) (Nat.le_of_eq (Nat.zero_add _)) rfl rfl (by simp [oneSlot]) (Nat.le_of_ble_eq_true rfl) (Ct.mono hG ?_)
        rintro o h' (⟨v3, g8, rfl, rfl, hG⟩ | ⟨E, g, rfl, rfl, hG⟩)
        · show AW Γ l mX4_readAtom (d + 1) b 54 [vR t0, vR 4, vI x2, vI 1] [vI v3] (stt g8) K
          refine ax_if_ne (off := 5) (tgt := 59) (x' := wr v3) (by decide +kernel) (by decide) rfl (fun hc => ?_) (fun hc => ?_)
          · have hG := hG.1 hc
            refine aw_aload_n (k' := 0) (by decide +kernel) rfl ?_
            refine aw_iconst (n := 5) (by decide +kernel) ?_
            refine aw_iconst (n := 0) (by decide +kernel) ?_
            refine aw_callV (y := yX4_emit) (M2 := mX4_emit) (as := [vI 5, vI 0]) (S := []) (t := t0) (d2 := d) (b2 := 0) (b3 := b) cwX4_emit mlX4_72 imX4_emit seX4_emit (by decide +kernel) rfl (ci := 3) rfl (OB.at ht0.ob (by decide)) (Nat.le_refl _) (Nat.le_of_eq (Nat.zero_add _)) rfl rfl (by simp [oneSlot]) (Nat.le_of_ble_eq_true rfl) (Ct.mono hG ?_)
            rintro o h' (⟨g9, rfl, rfl, hG⟩ | ⟨E, g, rfl, rfl, hG⟩)
            · show AW Γ l mX4_readAtom (d + 1) b 65 [vR t0, vR 4, vI x2, vI 1] [] (stt g9) K
              refine aw_iconst (n := 1) (by decide +kernel) ?_
              exact aw_zret (by decide +kernel) rfl rfl hG
            · exact hG
          · have hG := hG.2 hc
            refine aw_iconst (n := 0) (by decide +kernel) ?_
            exact aw_zret (by decide +kernel) rfl rfl hG
        · exact hG
      · exact hG
    · have hF := hF.2 hc
      refine aw_iconst (n := 0) (by decide +kernel) ?_
      exact aw_zret (by decide +kernel) rfl rfl hF

set_option maxHeartbeats 1000000 in
theorem wpX4_readComparison {Γ : Cfg} {l : Launch} {d b : Nat} {g : GG} {K : Ou → HP → Prop} {t0 : Int} (ht0 : LA t0) (hF : AW Γ l mX4_readComparison (d + 1) b 7 [vR t0, vR 4, vI (-1), vI 0, vI 0] [] (stt g) K) : Ct Γ l (d + 1) b yX4_readComparison mX4_readComparison [vR t0, vR 4] (stt g) K := by
  refine Ct.enter (L := [vR t0, vR 4, vU, vU, vU]) rfl rfl rfl (by decide +kernel) (by simp [oneSlot]) (Nat.le_of_ble_eq_true rfl) rfl ?_
  refine aw_iconst (n := -1) (by decide +kernel) ?_
  refine aw_istore_n (k' := 2) (by decide +kernel) (by decide) ?_
  show AW Γ l mX4_readComparison (d + 1) b 2 [vR t0, vR 4, vI (-1), vU, vU] [] (stt g) K
  refine aw_iconst (n := 0) (by decide +kernel) ?_
  refine aw_istore_n (k' := 3) (by decide +kernel) (by decide) ?_
  show AW Γ l mX4_readComparison (d + 1) b 4 [vR t0, vR 4, vI (-1), vI 0, vU] [] (stt g) K
  refine aw_iconst (n := 0) (by decide +kernel) ?_
  refine aw_istore (i := 4) (by decide +kernel) (by decide) ?_
  show AW Γ l mX4_readComparison (d + 1) b 7 [vR t0, vR 4, vI (-1), vI 0, vI 0] [] (stt g) K
  exact hF
set_option maxHeartbeats 1000000 in
theorem wpX4_readComparison_7 {Γ : Cfg} {l : Launch} {d b : Nat} {g : GG} {K : Ou → HP → Prop} {t0 : Int} (ht0 : LA t0) {y2 : Int} {y3 : Int} {y4 : Int} (hF : (400 ≤ wr y4 → K (.inl (vI 0)) (stt g)) ∧ (¬ (400 ≤ wr y4) → Ct Γ l d 0 yX4_emitPart mX4_emitPart [vR t0, vR (g 4 4), vI (g 4 6)] (stt g) (bI (fun v1 g1 => (wr v1 = 0 → K (.inl (vI 0)) (stt g1)) ∧ (¬ (wr v1 = 0) → Ct Γ l d 0 yX10_step mX10_step [vR 4] (stt g1) (bV (fun g2 => (wr y3 ≤ 0 → AW Γ l mX4_readComparison (d + 1) b 44 [vR t0, vR 4, vI y2, vI y3, vI y4] [] (stt g2) K) ∧ (¬ (wr y3 ≤ 0) → Ct Γ l d 0 yX4_emit mX4_emit [vR t0, vI 2, vI 0] (stt g2) (bV (fun g3 => AW Γ l mX4_readComparison (d + 1) b 44 [vR t0, vR 4, vI y2, vI y3, vI y4] [] (stt g3) K) K))) K))) K))) : AW Γ l mX4_readComparison (d + 1) b 7 [vR t0, vR 4, vI y2, vI y3, vI y4] [] (stt g) K := by
  refine aw_iload (i := 4) (by decide +kernel) rfl ?_
  refine aw_sipush (n := 400) (by decide +kernel) (by decide +kernel) ?_
  refine ax_icmp_ge (off := 108) (tgt := 120) (x' := wr y4) (y' := 400) (by decide +kernel) (by decide) rfl (by decide +kernel) (fun hc => ?_) (fun hc => ?_)
  · have hF := hF.1 hc
    refine aw_iconst (n := 0) (by decide +kernel) ?_
    exact aw_zret (by decide +kernel) rfl rfl hF
  · have hF := hF.2 hc
    refine aw_aload_n (k' := 0) (by decide +kernel) rfl ?_
    refine aw_aload_n (k' := 1) (by decide +kernel) rfl ?_
    refine gfX4_44 rfl (by decide +kernel) (OB.at (ci := 8) (show shp 4 = (18, 0) by decide +kernel) (by decide)) ?_
    refine aw_aload_n (k' := 1) (by decide +kernel) rfl ?_
    refine gfX4_66 rfl (by decide +kernel) (OB.at (ci := 8) (show shp 4 = (18, 0) by decide +kernel) (by decide)) ?_
    refine aw_callV (y := yX4_emitPart) (M2 := mX4_emitPart) (as := [vR (g 4 4), vI (g 4 6)]) (S := []) (t := t0) (d2 := d) (b2 := 0) (b3 := b) cwX4_emitPart mlX4_124 imX4_emitPart seX4_emitPart (by decide +kernel) rfl (ci := 3) rfl (OB.at ht0.ob (by decide)) (Nat.le_refl _) (Nat.le_of_eq (Nat.zero_add _)) rfl rfl (by simp [oneSlot]) (Nat.le_of_ble_eq_true rfl) (Ct.mono hF ?_)
    rintro o h' (⟨v1, g1, rfl, rfl, hG⟩ | ⟨E, g, rfl, rfl, hG⟩)
    · show AW Γ l mX4_readComparison (d + 1) b 27 [vR t0, vR 4, vI y2, vI y3, vI y4] [vI v1] (stt g1) K
      refine ax_if_eq (off := 93) (tgt := 120) (x' := wr v1) (by decide +kernel) (by decide) rfl (fun hc => ?_) (fun hc => ?_)
      · have hG := hG.1 hc
        refine aw_iconst (n := 0) (by decide +kernel) ?_
        exact aw_zret (by decide +kernel) rfl rfl hG
      · have hG := hG.2 hc
        refine aw_aload_n (k' := 1) (by decide +kernel) rfl ?_
        refine aw_callV (y := yX10_step) (M2 := mX10_step) (as := []) (S := []) (t := 4) (d2 := d) (b2 := 0) (b3 := b) cwX10_step mlX4_59 imX10_step seX10_step (by decide +kernel) rfl (ci := 8) rfl (OB.at (ci := 8) (show shp 4 = (18, 0) by decide +kernel) (by decide)) (Nat.le_refl _) (Nat.le_of_eq (Nat.zero_add _)) rfl rfl (by simp [oneSlot]) (Nat.le_of_ble_eq_true rfl) (Ct.mono hG ?_)
        rintro o h' (⟨g2, rfl, rfl, hG⟩ | ⟨E, g, rfl, rfl, hG⟩)
        · show AW Γ l mX4_readComparison (d + 1) b 34 [vR t0, vR 4, vI y2, vI y3, vI y4] [] (stt g2) K
          refine aw_iload_n (k' := 3) (by decide +kernel) rfl ?_
          refine ax_if_le (off := 9) (tgt := 44) (x' := wr y3) (by decide +kernel) (by decide) rfl (fun hc => ?_) (fun hc => ?_)
          · have hG := hG.1 hc
            exact hG
          · have hG := hG.2 hc
            refine aw_aload_n (k' := 0) (by decide +kernel) rfl ?_
            refine aw_iconst (n := 2) (by decide +kernel) ?_
            refine aw_iconst (n := 0) (by decide +kernel) ?_
            refine aw_callV (y := yX4_emit) (M2 := mX4_emit) (as := [vI 2, vI 0]) (S := []) (t := t0) (d2 := d) (b2 := 0) (b3 := b) cwX4_emit mlX4_72 imX4_emit seX4_emit (by decide +kernel) rfl (ci := 3) rfl (OB.at ht0.ob (by decide)) (Nat.le_refl _) (Nat.le_of_eq (Nat.zero_add _)) rfl rfl (by simp [oneSlot]) (Nat.le_of_ble_eq_true rfl) (Ct.mono hG ?_)
            rintro o h' (⟨g3, rfl, rfl, hG⟩ | ⟨E, g, rfl, rfl, hG⟩)
            · show AW Γ l mX4_readComparison (d + 1) b 44 [vR t0, vR 4, vI y2, vI y3, vI y4] [] (stt g3) K
              exact hG
            · exact hG
        · exact hG
    · exact hG
set_option maxHeartbeats 1000000 in
theorem wpX4_readComparison_44 {Γ : Cfg} {l : Launch} {d b : Nat} {g : GG} {K : Ou → HP → Prop} {t0 : Int} (ht0 : LA t0) {y2 : Int} {y3 : Int} {y4 : Int} (hF : (SG (g 4 4)) ∧ ((g 4 4 = 1035 → Ct Γ l d 0 yX10_step mX10_step [vR 4] (stt g) (bV (fun g1 => AW Γ l mX4_readComparison (d + 1) b 7 [vR t0, vR 4, vI y2, vI (y3 + 1), vI (y4 + 1)] [] (stt g1) K) K)) ∧ (¬ g 4 4 = 1035 → (wr y2 = -1 → (SG (g 4 4)) ∧ ((g 4 4 = 1033 → (SG (g 4 4)) ∧ ((¬ g 4 4 = 1033 → Ct Γ l d 0 yX10_step mX10_step [vR 4] (stt g) (bV (fun g2 => AW Γ l mX4_readComparison (d + 1) b 7 [vR t0, vR 4, vI 4, vI 0, vI (y4 + 1)] [] (stt g2) K) K)) ∧ (g 4 4 = 1033 → Ct Γ l d 0 yX10_step mX10_step [vR 4] (stt g) (bV (fun g3 => AW Γ l mX4_readComparison (d + 1) b 7 [vR t0, vR 4, vI 3, vI 0, vI (y4 + 1)] [] (stt g3) K) K)))) ∧ (¬ g 4 4 = 1033 → (SG (g 4 4)) ∧ ((g 4 4 = 1034 → (SG (g 4 4)) ∧ ((¬ g 4 4 = 1033 → Ct Γ l d 0 yX10_step mX10_step [vR 4] (stt g) (bV (fun g4 => AW Γ l mX4_readComparison (d + 1) b 7 [vR t0, vR 4, vI 4, vI 0, vI (y4 + 1)] [] (stt g4) K) K)) ∧ (g 4 4 = 1033 → Ct Γ l d 0 yX10_step mX10_step [vR 4] (stt g) (bV (fun g5 => AW Γ l mX4_readComparison (d + 1) b 7 [vR t0, vR 4, vI 3, vI 0, vI (y4 + 1)] [] (stt g5) K) K)))) ∧ (¬ g 4 4 = 1034 → K (.inl (vI 0)) (stt g)))))) ∧ (¬ (wr y2 = -1) → Ct Γ l d 0 yX4_emit mX4_emit [vR t0, vI y2, vI 0] (stt g) (bV (fun g6 => K (.inl (vI 1)) (stt g6)) K))))) : AW Γ l mX4_readComparison (d + 1) b 44 [vR t0, vR 4, vI y2, vI y3, vI y4] [] (stt g) K := by
  refine aw_iinc (i := 3) (n := 1) (by decide +kernel) rfl (by decide) ?_
  show AW Γ l mX4_readComparison (d + 1) b 47 [vR t0, vR 4, vI y2, vI (y3 + 1), vI y4] [] (stt g) K
  refine aw_aload_n (k' := 1) (by decide +kernel) rfl ?_
  refine gfX4_44 rfl (by decide +kernel) (OB.at (ci := 8) (show shp 4 = (18, 0) by decide +kernel) (by decide)) ?_
  refine aw_sign' (idx := 128) (i := 35) (r := 1035) (by decide +kernel) (by decide) (by decide) (fun hown hts hnw => Or.inl (hts _ (tm4 140 (by decide +kernel) (by decide +kernel)))) ?_
  refine aw_sacmp_eq (off := 56) (tgt := 110) (by decide +kernel) (by decide) hF.1 (show SG 1035 from ⟨by decide, by decide⟩) (fun hc => ?_) (fun hc => ?_)
  all_goals replace hF := hF.2
  · have hF := hF.1 hc
    refine aw_aload_n (k' := 1) (by decide +kernel) rfl ?_
    refine aw_callV (y := yX10_step) (M2 := mX10_step) (as := []) (S := []) (t := 4) (d2 := d) (b2 := 0) (b3 := b) cwX10_step mlX4_59 imX10_step seX10_step (by decide +kernel) rfl (ci := 8) rfl (OB.at (ci := 8) (show shp 4 = (18, 0) by decide +kernel) (by decide)) (Nat.le_refl _) (Nat.le_of_eq (Nat.zero_add _)) rfl rfl (by simp [oneSlot]) (Nat.le_of_ble_eq_true rfl) (Ct.mono hF ?_)
    rintro o h' (⟨g1, rfl, rfl, hG⟩ | ⟨E, g, rfl, rfl, hG⟩)
    · show AW Γ l mX4_readComparison (d + 1) b 114 [vR t0, vR 4, vI y2, vI (y3 + 1), vI y4] [] (stt g1) K
      refine aw_iinc (i := 4) (n := 1) (by decide +kernel) rfl (by decide) ?_
      show AW Γ l mX4_readComparison (d + 1) b 117 [vR t0, vR 4, vI y2, vI (y3 + 1), vI (y4 + 1)] [] (stt g1) K
      refine aw_goto (off := -110) (tgt := 7) (by decide +kernel) (by decide) ?_
      exact hG
    · exact hG
  · have hF := hF.2 hc
    refine aw_iload_n (k' := 2) (by decide +kernel) rfl ?_
    refine aw_iconst (n := -1) (by decide +kernel) ?_
    refine ax_icmp_eq (off := 11) (tgt := 70) (x' := wr y2) (y' := -1) (by decide +kernel) (by decide) rfl (by decide +kernel) (fun hc => ?_) (fun hc => ?_)
    · have hF := hF.1 hc
      refine aw_aload_n (k' := 1) (by decide +kernel) rfl ?_
      refine gfX4_44 rfl (by decide +kernel) (OB.at (ci := 8) (show shp 4 = (18, 0) by decide +kernel) (by decide)) ?_
      refine aw_sign' (idx := 131) (i := 33) (r := 1033) (by decide +kernel) (by decide) (by decide) (fun hown hts hnw => Or.inl (hts _ (tm4 142 (by decide +kernel) (by decide +kernel)))) ?_
      refine aw_sacmp_eq (off := 15) (tgt := 92) (by decide +kernel) (by decide) hF.1 (show SG 1033 from ⟨by decide, by decide⟩) (fun hc => ?_) (fun hc => ?_)
      all_goals replace hF := hF.2
      · have hF := hF.1 hc
        refine aw_aload_n (k' := 1) (by decide +kernel) rfl ?_
        refine gfX4_44 rfl (by decide +kernel) (OB.at (ci := 8) (show shp 4 = (18, 0) by decide +kernel) (by decide)) ?_
        refine aw_sign' (idx := 131) (i := 33) (r := 1033) (by decide +kernel) (by decide) (by decide) (fun hown hts hnw => Or.inl (hts _ (tm4 142 (by decide +kernel) (by decide +kernel)))) ?_
        refine aw_sacmp_ne (off := 7) (tgt := 106) (by decide +kernel) (by decide) hF.1 (show SG 1033 from ⟨by decide, by decide⟩) (fun hc => ?_) (fun hc => ?_)
        all_goals replace hF := hF.2
        · have hF := hF.1 hc
          refine aw_iconst (n := 4) (by decide +kernel) ?_
          refine aw_istore_n (k' := 2) (by decide +kernel) (by decide) ?_
          show AW Γ l mX4_readComparison (d + 1) b 108 [vR t0, vR 4, vI 4, vI (y3 + 1), vI y4] [] (stt g) K
          refine aw_iconst (n := 0) (by decide +kernel) ?_
          refine aw_istore_n (k' := 3) (by decide +kernel) (by decide) ?_
          show AW Γ l mX4_readComparison (d + 1) b 110 [vR t0, vR 4, vI 4, vI 0, vI y4] [] (stt g) K
          refine aw_aload_n (k' := 1) (by decide +kernel) rfl ?_
          refine aw_callV (y := yX10_step) (M2 := mX10_step) (as := []) (S := []) (t := 4) (d2 := d) (b2 := 0) (b3 := b) cwX10_step mlX4_59 imX10_step seX10_step (by decide +kernel) rfl (ci := 8) rfl (OB.at (ci := 8) (show shp 4 = (18, 0) by decide +kernel) (by decide)) (Nat.le_refl _) (Nat.le_of_eq (Nat.zero_add _)) rfl rfl (by simp [oneSlot]) (Nat.le_of_ble_eq_true rfl) (Ct.mono hF ?_)
          rintro o h' (⟨g2, rfl, rfl, hG⟩ | ⟨E, g, rfl, rfl, hG⟩)
          · show AW Γ l mX4_readComparison (d + 1) b 114 [vR t0, vR 4, vI 4, vI 0, vI y4] [] (stt g2) K
            refine aw_iinc (i := 4) (n := 1) (by decide +kernel) rfl (by decide) ?_
            show AW Γ l mX4_readComparison (d + 1) b 117 [vR t0, vR 4, vI 4, vI 0, vI (y4 + 1)] [] (stt g2) K
            refine aw_goto (off := -110) (tgt := 7) (by decide +kernel) (by decide) ?_
            exact hG
          · exact hG
        · have hF := hF.2 hc
          refine aw_iconst (n := 3) (by decide +kernel) ?_
          refine aw_goto (off := 4) (tgt := 107) (by decide +kernel) (by decide) ?_
          refine aw_istore_n (k' := 2) (by decide +kernel) (by decide) ?_
          show AW Γ l mX4_readComparison (d + 1) b 108 [vR t0, vR 4, vI 3, vI (y3 + 1), vI y4] [] (stt g) K
          refine aw_iconst (n := 0) (by decide +kernel) ?_
          refine aw_istore_n (k' := 3) (by decide +kernel) (by decide) ?_
          show AW Γ l mX4_readComparison (d + 1) b 110 [vR t0, vR 4, vI 3, vI 0, vI y4] [] (stt g) K
          refine aw_aload_n (k' := 1) (by decide +kernel) rfl ?_
          refine aw_callV (y := yX10_step) (M2 := mX10_step) (as := []) (S := []) (t := 4) (d2 := d) (b2 := 0) (b3 := b) cwX10_step mlX4_59 imX10_step seX10_step (by decide +kernel) rfl (ci := 8) rfl (OB.at (ci := 8) (show shp 4 = (18, 0) by decide +kernel) (by decide)) (Nat.le_refl _) (Nat.le_of_eq (Nat.zero_add _)) rfl rfl (by simp [oneSlot]) (Nat.le_of_ble_eq_true rfl) (Ct.mono hF ?_)
          rintro o h' (⟨g3, rfl, rfl, hG⟩ | ⟨E, g, rfl, rfl, hG⟩)
          · show AW Γ l mX4_readComparison (d + 1) b 114 [vR t0, vR 4, vI 3, vI 0, vI y4] [] (stt g3) K
            refine aw_iinc (i := 4) (n := 1) (by decide +kernel) rfl (by decide) ?_
            show AW Γ l mX4_readComparison (d + 1) b 117 [vR t0, vR 4, vI 3, vI 0, vI (y4 + 1)] [] (stt g3) K
            refine aw_goto (off := -110) (tgt := 7) (by decide +kernel) (by decide) ?_
            exact hG
          · exact hG
      · have hF := hF.2 hc
        refine aw_aload_n (k' := 1) (by decide +kernel) rfl ?_
        refine gfX4_44 rfl (by decide +kernel) (OB.at (ci := 8) (show shp 4 = (18, 0) by decide +kernel) (by decide)) ?_
        refine aw_sign' (idx := 134) (i := 34) (r := 1034) (by decide +kernel) (by decide) (by decide) (fun hown hts hnw => Or.inl (hts _ (tm4 144 (by decide +kernel) (by decide +kernel)))) ?_
        refine aw_sacmp_eq (off := 5) (tgt := 92) (by decide +kernel) (by decide) hF.1 (show SG 1034 from ⟨by decide, by decide⟩) (fun hc => ?_) (fun hc => ?_)
        all_goals replace hF := hF.2
        · have hF := hF.1 hc
          refine aw_aload_n (k' := 1) (by decide +kernel) rfl ?_
          refine gfX4_44 rfl (by decide +kernel) (OB.at (ci := 8) (show shp 4 = (18, 0) by decide +kernel) (by decide)) ?_
          refine aw_sign' (idx := 131) (i := 33) (r := 1033) (by decide +kernel) (by decide) (by decide) (fun hown hts hnw => Or.inl (hts _ (tm4 142 (by decide +kernel) (by decide +kernel)))) ?_
          refine aw_sacmp_ne (off := 7) (tgt := 106) (by decide +kernel) (by decide) hF.1 (show SG 1033 from ⟨by decide, by decide⟩) (fun hc => ?_) (fun hc => ?_)
          all_goals replace hF := hF.2
          · have hF := hF.1 hc
            refine aw_iconst (n := 4) (by decide +kernel) ?_
            refine aw_istore_n (k' := 2) (by decide +kernel) (by decide) ?_
            show AW Γ l mX4_readComparison (d + 1) b 108 [vR t0, vR 4, vI 4, vI (y3 + 1), vI y4] [] (stt g) K
            refine aw_iconst (n := 0) (by decide +kernel) ?_
            refine aw_istore_n (k' := 3) (by decide +kernel) (by decide) ?_
            show AW Γ l mX4_readComparison (d + 1) b 110 [vR t0, vR 4, vI 4, vI 0, vI y4] [] (stt g) K
            refine aw_aload_n (k' := 1) (by decide +kernel) rfl ?_
            refine aw_callV (y := yX10_step) (M2 := mX10_step) (as := []) (S := []) (t := 4) (d2 := d) (b2 := 0) (b3 := b) cwX10_step mlX4_59 imX10_step seX10_step (by decide +kernel) rfl (ci := 8) rfl (OB.at (ci := 8) (show shp 4 = (18, 0) by decide +kernel) (by decide)) (Nat.le_refl _) (Nat.le_of_eq (Nat.zero_add _)) rfl rfl (by simp [oneSlot]) (Nat.le_of_ble_eq_true rfl) (Ct.mono hF ?_)
            rintro o h' (⟨g4, rfl, rfl, hG⟩ | ⟨E, g, rfl, rfl, hG⟩)
            · show AW Γ l mX4_readComparison (d + 1) b 114 [vR t0, vR 4, vI 4, vI 0, vI y4] [] (stt g4) K
              refine aw_iinc (i := 4) (n := 1) (by decide +kernel) rfl (by decide) ?_
              show AW Γ l mX4_readComparison (d + 1) b 117 [vR t0, vR 4, vI 4, vI 0, vI (y4 + 1)] [] (stt g4) K
              refine aw_goto (off := -110) (tgt := 7) (by decide +kernel) (by decide) ?_
              exact hG
            · exact hG
          · have hF := hF.2 hc
            refine aw_iconst (n := 3) (by decide +kernel) ?_
            refine aw_goto (off := 4) (tgt := 107) (by decide +kernel) (by decide) ?_
            refine aw_istore_n (k' := 2) (by decide +kernel) (by decide) ?_
            show AW Γ l mX4_readComparison (d + 1) b 108 [vR t0, vR 4, vI 3, vI (y3 + 1), vI y4] [] (stt g) K
            refine aw_iconst (n := 0) (by decide +kernel) ?_
            refine aw_istore_n (k' := 3) (by decide +kernel) (by decide) ?_
            show AW Γ l mX4_readComparison (d + 1) b 110 [vR t0, vR 4, vI 3, vI 0, vI y4] [] (stt g) K
            refine aw_aload_n (k' := 1) (by decide +kernel) rfl ?_
            refine aw_callV (y := yX10_step) (M2 := mX10_step) (as := []) (S := []) (t := 4) (d2 := d) (b2 := 0) (b3 := b) cwX10_step mlX4_59 imX10_step seX10_step (by decide +kernel) rfl (ci := 8) rfl (OB.at (ci := 8) (show shp 4 = (18, 0) by decide +kernel) (by decide)) (Nat.le_refl _) (Nat.le_of_eq (Nat.zero_add _)) rfl rfl (by simp [oneSlot]) (Nat.le_of_ble_eq_true rfl) (Ct.mono hF ?_)
            rintro o h' (⟨g5, rfl, rfl, hG⟩ | ⟨E, g, rfl, rfl, hG⟩)
            · show AW Γ l mX4_readComparison (d + 1) b 114 [vR t0, vR 4, vI 3, vI 0, vI y4] [] (stt g5) K
              refine aw_iinc (i := 4) (n := 1) (by decide +kernel) rfl (by decide) ?_
              show AW Γ l mX4_readComparison (d + 1) b 117 [vR t0, vR 4, vI 3, vI 0, vI (y4 + 1)] [] (stt g5) K
              refine aw_goto (off := -110) (tgt := 7) (by decide +kernel) (by decide) ?_
              exact hG
            · exact hG
        · have hF := hF.2 hc
          refine aw_iconst (n := 0) (by decide +kernel) ?_
          exact aw_zret (by decide +kernel) rfl rfl hF
    · have hF := hF.2 hc
      refine aw_aload_n (k' := 0) (by decide +kernel) rfl ?_
      refine aw_iload_n (k' := 2) (by decide +kernel) rfl ?_
      refine aw_iconst (n := 0) (by decide +kernel) ?_
      refine aw_callV (y := yX4_emit) (M2 := mX4_emit) (as := [vI y2, vI 0]) (S := []) (t := t0) (d2 := d) (b2 := 0) (b3 := b) cwX4_emit mlX4_72 imX4_emit seX4_emit (by decide +kernel) rfl (ci := 3) rfl (OB.at ht0.ob (by decide)) (Nat.le_refl _) (Nat.le_of_eq (Nat.zero_add _)) rfl rfl (by simp [oneSlot]) (Nat.le_of_ble_eq_true rfl) (Ct.mono hF ?_)
      rintro o h' (⟨g6, rfl, rfl, hG⟩ | ⟨E, g, rfl, rfl, hG⟩)
      · show AW Γ l mX4_readComparison (d + 1) b 68 [vR t0, vR 4, vI y2, vI (y3 + 1), vI y4] [] (stt g6) K
        refine aw_iconst (n := 1) (by decide +kernel) ?_
        exact aw_zret (by decide +kernel) rfl rfl hG
      · exact hG

set_option maxHeartbeats 1000000 in
theorem wpX4_emitPart {Γ : Cfg} {l : Launch} {d b : Nat} {g : GG} {K : Ou → HP → Prop} {t : Int} (ht : LA t) {t1 : Int} (ht1 : SG t1) {x2 : Int} (hF : (¬ t1 = 1036 → (wr (sgF t1) = -1 → K (.inl (vI 0)) (stt g)) ∧ (¬ (wr (sgF t1) = -1) → (sgF t1 = 7 ∨ sgF t1 = 8 ∨ sgF t1 = 9 → K (.inl (vI 0)) (stt g)) ∧ (¬ (sgF t1 = 7 ∨ sgF t1 = 8 ∨ sgF t1 = 9) → Ct Γ l d 0 yX4_emit mX4_emit [vR t, vI 1, vI (sgF t1)] (stt g) (bV (fun g1 => K (.inl (vI 1)) (stt g1)) K)))) ∧ (t1 = 1036 → Ct Γ l d 0 yX4_emit mX4_emit [vR t, vI 0, vI x2] (stt g) (bV (fun g2 => K (.inl (vI 1)) (stt g2)) K))) : Ct Γ l (d + 1) b yX4_emitPart mX4_emitPart [vR t, vR t1, vI x2] (stt g) K := by
  refine Ct.enter (L := [vR t, vR t1, vI x2, vU]) rfl rfl rfl (by decide +kernel) (by simp [oneSlot]) (Nat.le_of_ble_eq_true rfl) rfl ?_
  refine aw_aload_n (k' := 1) (by decide +kernel) rfl ?_
  refine aw_sign' (idx := 137) (i := 36) (r := 1036) (by decide +kernel) (by decide) (by decide) (fun hown hts hnw => Or.inl (hts _ (tm4 139 (by decide +kernel) (by decide +kernel)))) ?_
  refine aw_sacmp_ne (off := 7) (tgt := 11) (by decide +kernel) (by decide) ht1 (show SG 1036 from ⟨by decide, by decide⟩) (fun hc => ?_) (fun hc => ?_)
  · have hF := hF.1 hc
    refine aw_iconst (n := 0) (by decide +kernel) ?_
    refine aw_istore_n (k' := 3) (by decide +kernel) (by decide) ?_
    show AW Γ l mX4_emitPart (d + 1) b 13 [vR t, vR t1, vI x2, vI 0] [] (stt g) K
    refine aw_iload_n (k' := 3) (by decide +kernel) rfl ?_
    refine ax_if_ne (off := 20) (tgt := 34) (x' := 0) (by decide +kernel) (by decide) (by decide +kernel) (fun hc => absurd hc (by decide)) (fun hc => ?_)
    refine aw_aload_n (k' := 1) (by decide +kernel) rfl ?_
    refine aw_stf (idx := 117) (v := vI (sgF t1)) (ht1).1 (fun hS => ofSGf ht1 hS) (fun hown hts hnw => Or.inr ⟨"HalfOaths", va_Nw.use rfl (hnw _ (tn9 136 (by decide +kernel) (by decide +kernel)))⟩) (by decide +kernel) ?_
    refine aw_iconst (n := -1) (by decide +kernel) ?_
    refine ax_icmp_eq (off := 10) (tgt := 32) (x' := wr (sgF t1)) (y' := -1) (by decide +kernel) (by decide) rfl (by decide +kernel) (fun hc => ?_) (fun hc => ?_)
    · have hF := hF.1 hc
      refine aw_iconst (n := 0) (by decide +kernel) ?_
      exact aw_zret (by decide +kernel) rfl rfl hF
    · have hF := hF.2 hc
      refine aw_aload_n (k' := 1) (by decide +kernel) rfl ?_
      refine aw_callO (y := yX8_isFlag) (M2 := mX8_isFlag) (as := []) (S := []) (r := t1) (d2 := d) (b2 := 0) (b3 := b) cwX8_isFlag mlX4_113 imX8_isFlag seX8_isFlag (by decide +kernel) rfl (by have := (ht1).1; omega) (fun hS => recSG ht1 hS) (Nat.le_refl _) (Nat.le_of_eq (Nat.zero_add _)) rfl rfl (by simp [oneSlot]) (Nat.le_of_ble_eq_true rfl) (c_isFlag ht1 (fun hc => ?_) (fun hc => ?_))
      · have hF := hF.1 hc
        show AW Γ l mX4_emitPart (d + 1) b 29 [vR t, vR t1, vI x2, vI 0] [vI 1] (stt g) K
        refine ax_if_eq (off := 5) (tgt := 34) (x' := 1) (by decide +kernel) (by decide) (by decide +kernel) (fun hc => absurd hc (by decide)) (fun hc => ?_)
        refine aw_iconst (n := 0) (by decide +kernel) ?_
        exact aw_zret (by decide +kernel) rfl rfl hF
      · have hF := hF.2 hc
        show AW Γ l mX4_emitPart (d + 1) b 29 [vR t, vR t1, vI x2, vI 0] [vI 0] (stt g) K
        refine ax_if_eq (off := 5) (tgt := 34) (x' := 0) (by decide +kernel) (by decide) (by decide +kernel) (fun hc => ?_) (fun hc => absurd (by decide) hc)
        refine aw_aload_n (k' := 0) (by decide +kernel) rfl ?_
        refine aw_iload_n (k' := 3) (by decide +kernel) rfl ?_
        refine ax_if_eq (off := 7) (tgt := 43) (x' := 0) (by decide +kernel) (by decide) (by decide +kernel) (fun hc => ?_) (fun hc => absurd (by decide) hc)
        refine aw_iconst (n := 1) (by decide +kernel) ?_
        refine aw_iload_n (k' := 3) (by decide +kernel) rfl ?_
        refine ax_if_eq (off := 7) (tgt := 52) (x' := 0) (by decide +kernel) (by decide) (by decide +kernel) (fun hc => ?_) (fun hc => absurd (by decide) hc)
        refine aw_aload_n (k' := 1) (by decide +kernel) rfl ?_
        refine aw_stf (idx := 117) (v := vI (sgF t1)) (ht1).1 (fun hS => ofSGf ht1 hS) (fun hown hts hnw => Or.inr ⟨"HalfOaths", va_Nw.use rfl (hnw _ (tn9 136 (by decide +kernel) (by decide +kernel)))⟩) (by decide +kernel) ?_
        refine aw_callV (y := yX4_emit) (M2 := mX4_emit) (as := [vI 1, vI (sgF t1)]) (S := []) (t := t) (d2 := d) (b2 := 0) (b3 := b) cwX4_emit mlX4_72 imX4_emit seX4_emit (by decide +kernel) rfl (ci := 3) rfl (OB.at ht.ob (by decide)) (Nat.le_refl _) (Nat.le_of_eq (Nat.zero_add _)) rfl rfl (by simp [oneSlot]) (Nat.le_of_ble_eq_true rfl) (Ct.mono hF ?_)
        rintro o h' (⟨g1, rfl, rfl, hG⟩ | ⟨E, g, rfl, rfl, hG⟩)
        · show AW Γ l mX4_emitPart (d + 1) b 59 [vR t, vR t1, vI x2, vI 0] [] (stt g1) K
          refine aw_iconst (n := 1) (by decide +kernel) ?_
          exact aw_zret (by decide +kernel) rfl rfl hG
        · exact hG
  · have hF := hF.2 hc
    refine aw_iconst (n := 1) (by decide +kernel) ?_
    refine aw_goto (off := 4) (tgt := 12) (by decide +kernel) (by decide) ?_
    refine aw_istore_n (k' := 3) (by decide +kernel) (by decide) ?_
    show AW Γ l mX4_emitPart (d + 1) b 13 [vR t, vR t1, vI x2, vI 1] [] (stt g) K
    refine aw_iload_n (k' := 3) (by decide +kernel) rfl ?_
    refine ax_if_ne (off := 20) (tgt := 34) (x' := 1) (by decide +kernel) (by decide) (by decide +kernel) (fun hc => ?_) (fun hc => absurd (by decide) hc)
    refine aw_aload_n (k' := 0) (by decide +kernel) rfl ?_
    refine aw_iload_n (k' := 3) (by decide +kernel) rfl ?_
    refine ax_if_eq (off := 7) (tgt := 43) (x' := 1) (by decide +kernel) (by decide) (by decide +kernel) (fun hc => absurd hc (by decide)) (fun hc => ?_)
    refine aw_iconst (n := 0) (by decide +kernel) ?_
    refine aw_goto (off := 4) (tgt := 44) (by decide +kernel) (by decide) ?_
    refine aw_iload_n (k' := 3) (by decide +kernel) rfl ?_
    refine ax_if_eq (off := 7) (tgt := 52) (x' := 1) (by decide +kernel) (by decide) (by decide +kernel) (fun hc => absurd hc (by decide)) (fun hc => ?_)
    refine aw_iload_n (k' := 2) (by decide +kernel) rfl ?_
    refine aw_goto (off := 7) (tgt := 56) (by decide +kernel) (by decide) ?_
    refine aw_callV (y := yX4_emit) (M2 := mX4_emit) (as := [vI 0, vI x2]) (S := []) (t := t) (d2 := d) (b2 := 0) (b3 := b) cwX4_emit mlX4_72 imX4_emit seX4_emit (by decide +kernel) rfl (ci := 3) rfl (OB.at ht.ob (by decide)) (Nat.le_refl _) (Nat.le_of_eq (Nat.zero_add _)) rfl rfl (by simp [oneSlot]) (Nat.le_of_ble_eq_true rfl) (Ct.mono hF ?_)
    rintro o h' (⟨g2, rfl, rfl, hG⟩ | ⟨E, g, rfl, rfl, hG⟩)
    · show AW Γ l mX4_emitPart (d + 1) b 59 [vR t, vR t1, vI x2, vI 1] [] (stt g2) K
      refine aw_iconst (n := 1) (by decide +kernel) ?_
      exact aw_zret (by decide +kernel) rfl rfl hG
    · exact hG

set_option maxHeartbeats 1000000 in
theorem wpX4_emit {Γ : Cfg} {l : Launch} {d b : Nat} {g : GG} {K : Ou → HP → Prop} {t : Int} (ht : LA t) {x1 : Int} {x2 : Int} (hF : (wr (g t 2) < 0 → K (.inl vU) (stt g)) ∧ (¬ (wr (g t 2) < 0) → (ln (t + 1 + 0) ≤ wr (g t 2) → K (.inl vU) (stt g)) ∧ (¬ (ln (t + 1 + 0) ≤ wr (g t 2)) → (0 ≤ wr (g t 2) ∧ wr (g t 2) < ln (t + 1 + 0)) ∧ (∀ g1 : GG, g1 = upd2 g (t + 1 + 0) (wr (g t 2)) ((x1 * 1000) + x2) → K (.inl vU) (stt (upd2 g1 t 2 ((g1 t 2) + 1))))))) : Ct Γ l d b yX4_emit mX4_emit [vR t, vI x1, vI x2] (stt g) K := by
  refine Ct.enter (L := [vR t, vI x1, vI x2]) rfl rfl rfl (by decide +kernel) (by simp [oneSlot]) (Nat.le_of_ble_eq_true rfl) rfl ?_
  refine aw_aload_n (k' := 0) (by decide +kernel) rfl ?_
  refine gfX4_18 rfl (by decide +kernel) (OB.at ht.ob (by decide)) ?_
  refine ax_if_lt (off := 41) (tgt := 45) (x' := wr (g t 2)) (by decide +kernel) (by decide) rfl (fun hc => ?_) (fun hc => ?_)
  · have hF := hF.1 hc
    exact aw_vret (by decide +kernel) rfl hF
  · have hF := hF.2 hc
    refine aw_aload_n (k' := 0) (by decide +kernel) rfl ?_
    refine gfX4_18 rfl (by decide +kernel) (OB.at ht.ob (by decide)) ?_
    refine aw_aload_n (k' := 0) (by decide +kernel) rfl ?_
    refine gfX4_9 rfl (by decide +kernel) (OB.at ht.ob (by decide)) ?_
    refine AW.topR (ht.r0) ?_
    refine aw_alen (by decide +kernel) (by decide) (IA.at (ht.a0)) ?_
    show AW Γ l mX4_emit d b 16 [vR t, vI x1, vI x2] [vI (ln (t + 1 + 0)), vI (g t 2)] (stt g) K
    refine ax_icmp_ge (off := 29) (tgt := 45) (x' := wr (g t 2)) (y' := ln (t + 1 + 0)) (by decide +kernel) (by decide) rfl (wr_ln _) (fun hc => ?_) (fun hc => ?_)
    · have hF := hF.1 hc
      exact aw_vret (by decide +kernel) rfl hF
    · have hF := hF.2 hc
      refine aw_aload_n (k' := 0) (by decide +kernel) rfl ?_
      refine gfX4_9 rfl (by decide +kernel) (OB.at ht.ob (by decide)) ?_
      refine AW.topR (ht.r0) ?_
      refine aw_aload_n (k' := 0) (by decide +kernel) rfl ?_
      refine gfX4_18 rfl (by decide +kernel) (OB.at ht.ob (by decide)) ?_
      refine aw_iload_n (k' := 1) (by decide +kernel) rfl ?_
      refine aw_sipush (n := 1000) (by decide +kernel) (by decide +kernel) ?_
      refine aw_imul (by decide +kernel) ?_
      refine aw_iload_n (k' := 2) (by decide +kernel) rfl ?_
      refine aw_iadd (by decide +kernel) ?_
      refine ax_iast (i := wr (g t 2)) (by decide +kernel) (IA.at (ht.a0)) rfl hF.1 ?_
      show AW Γ l mX4_emit d b 35 [vR t, vI x1, vI x2] [] (stt (upd2 g (t + 1 + 0) (wr (g t 2)) ((x1 * 1000) + x2))) K
      replace hF := hF.2
      show AW Γ l mX4_emit d b 35 [vR t, vI x1, vI x2] [] (stt (upd2 g (t + 1 + 0) (wr (g t 2)) ((x1 * 1000) + x2))) K
      generalize eg1 : upd2 g (t + 1 + 0) (wr (g t 2)) ((x1 * 1000) + x2) = g1
      replace hF := hF g1 eg1.symm
      refine aw_aload_n (k' := 0) (by decide +kernel) rfl ?_
      refine aw_dup (by decide +kernel) trivial ?_
      refine gfX4_18 rfl (by decide +kernel) (OB.at ht.ob (by decide)) ?_
      refine aw_iconst (n := 1) (by decide +kernel) ?_
      refine aw_iadd (by decide +kernel) ?_
      refine pfX4_18 rfl (by decide +kernel) (OB.at ht.ob (by decide)) ?_
      show AW Γ l mX4_emit d b 45 [vR t, vI x1, vI x2] [] (stt (upd2 g1 t 2 ((g1 t 2) + 1))) K
      exact aw_vret (by decide +kernel) rfl hF

set_option maxHeartbeats 1000000 in
theorem wpX4_judge {Γ : Cfg} {l : Launch} {d b : Nat} {g : GG} {K : Ou → HP → Prop} {t : Int} (ht : LA t) {r1 : Int} (hr1 : IA r1) (hF : (∀ g1 : GG, g1 = upd2 (upd2 (upd2 g t 5 0) t 6 0) t 7 0 → AW Γ l mX4_judge (d + 1) b 19 [vR t, vR r1, vI 0, vI 0, vU, vU] [] (stt g1) K)) : Ct Γ l (d + 1) b yX4_judge mX4_judge [vR t, vR r1] (stt g) K := by
  refine Ct.enter (L := [vR t, vR r1, vU, vU, vU, vU]) rfl rfl rfl (by decide +kernel) (by simp [oneSlot]) (Nat.le_of_ble_eq_true rfl) rfl ?_
  refine aw_aload_n (k' := 0) (by decide +kernel) rfl ?_
  refine aw_iconst (n := 0) (by decide +kernel) ?_
  refine pfX4_29 rfl (by decide +kernel) (OB.at ht.ob (by decide)) ?_
  show AW Γ l mX4_judge (d + 1) b 5 [vR t, vR r1, vU, vU, vU, vU] [] (stt (upd2 g t 5 0)) K
  refine aw_aload_n (k' := 0) (by decide +kernel) rfl ?_
  refine aw_iconst (n := 0) (by decide +kernel) ?_
  refine pfX4_32 rfl (by decide +kernel) (OB.at ht.ob (by decide)) ?_
  show AW Γ l mX4_judge (d + 1) b 10 [vR t, vR r1, vU, vU, vU, vU] [] (stt (upd2 (upd2 g t 5 0) t 6 0)) K
  refine aw_aload_n (k' := 0) (by decide +kernel) rfl ?_
  refine aw_iconst (n := 0) (by decide +kernel) ?_
  refine pfX4_35 rfl (by decide +kernel) (OB.at ht.ob (by decide)) ?_
  show AW Γ l mX4_judge (d + 1) b 15 [vR t, vR r1, vU, vU, vU, vU] [] (stt (upd2 (upd2 (upd2 g t 5 0) t 6 0) t 7 0)) K
  generalize eg1 : upd2 (upd2 (upd2 g t 5 0) t 6 0) t 7 0 = g1
  replace hF := hF g1 eg1.symm
  refine aw_iconst (n := 0) (by decide +kernel) ?_
  refine aw_istore_n (k' := 2) (by decide +kernel) (by decide) ?_
  show AW Γ l mX4_judge (d + 1) b 17 [vR t, vR r1, vI 0, vU, vU, vU] [] (stt g1) K
  refine aw_iconst (n := 0) (by decide +kernel) ?_
  refine aw_istore_n (k' := 3) (by decide +kernel) (by decide) ?_
  show AW Γ l mX4_judge (d + 1) b 19 [vR t, vR r1, vI 0, vI 0, vU, vU] [] (stt g1) K
  exact hF
set_option maxHeartbeats 1000000 in
theorem wpX4_judge_19 {Γ : Cfg} {l : Launch} {d b : Nat} {g : GG} {K : Ou → HP → Prop} {t : Int} (ht : LA t) {r1 : Int} (hr1 : IA r1) {y2 : Int} {y3 : Int} (hF : (wr (g t 2) ≤ wr y3 → K (.inl vU) (stt g)) ∧ (¬ (wr (g t 2) ≤ wr y3) → (1 < wr (iDiv (cel g (t + 1 + 0) y3) 1000) → (¬ wr (iDiv (cel g (t + 1 + 0) y3) 1000) = 5 → (7 < wr (iDiv (cel g (t + 1 + 0) y3) 1000) → Ct Γ l d 0 yX4_addLine mX4_addLine [vR t, vI (iDiv (cel g (t + 1 + 0) y3) 1000), vI ((cel g (t + 1 + 1) (y2 + (-1))) * (iRem (cel g (t + 1 + 0) y3) 1000))] (stt g) (bV (fun g1 => AW Γ l mX4_judge (d + 1) b 19 [vR t, vR r1, vI (y2 + (-1)), vI (y3 + 1), vI (iDiv (cel g (t + 1 + 0) y3) 1000), vI (iRem (cel g (t + 1 + 0) y3) 1000)] [] (stt g1) K) K)) ∧ (¬ (7 < wr (iDiv (cel g (t + 1 + 0) y3) 1000)) → Ct Γ l d 0 yX4_join mX4_join [vI (iDiv (cel g (t + 1 + 0) y3) 1000), vI (cel g (t + 1 + 1) ((y2 + (-1)) - 1)), vI (cel g (t + 1 + 1) (y2 + (-1)))] (stt g) (bI (fun v1 g2 => (∀ g3 : GG, g3 = puc g2 (t + 1 + 1) ((y2 + (-1)) - 1) v1 → AW Γ l mX4_judge (d + 1) b 19 [vR t, vR r1, vI (y2 + (-1)), vI (y3 + 1), vI (iDiv (cel g (t + 1 + 0) y3) 1000), vI (iRem (cel g (t + 1 + 0) y3) 1000)] [] (stt g3) K)) K))) ∧ (¬ (¬ wr (iDiv (cel g (t + 1 + 0) y3) 1000) = 5) → (∀ g4 : GG, g4 = puc g (t + 1 + 1) (y2 - 1) (1 - (cel g (t + 1 + 1) (y2 - 1))) → AW Γ l mX4_judge (d + 1) b 19 [vR t, vR r1, vI y2, vI (y3 + 1), vI (iDiv (cel g (t + 1 + 0) y3) 1000), vI (iRem (cel g (t + 1 + 0) y3) 1000)] [] (stt g4) K))) ∧ (¬ (1 < wr (iDiv (cel g (t + 1 + 0) y3) 1000)) → (¬ wr (iDiv (cel g (t + 1 + 0) y3) 1000) = 0 → (∀ g5 : GG, g5 = puc g (t + 1 + 1) y2 (cel g r1 (iRem (cel g (t + 1 + 0) y3) 1000)) → AW Γ l mX4_judge (d + 1) b 19 [vR t, vR r1, vI (y2 + 1), vI (y3 + 1), vI (iDiv (cel g (t + 1 + 0) y3) 1000), vI (iRem (cel g (t + 1 + 0) y3) 1000)] [] (stt g5) K)) ∧ (¬ (¬ wr (iDiv (cel g (t + 1 + 0) y3) 1000) = 0) → (∀ g6 : GG, g6 = puc g (t + 1 + 1) y2 (iRem (cel g (t + 1 + 0) y3) 1000) → AW Γ l mX4_judge (d + 1) b 19 [vR t, vR r1, vI (y2 + 1), vI (y3 + 1), vI (iDiv (cel g (t + 1 + 0) y3) 1000), vI (iRem (cel g (t + 1 + 0) y3) 1000)] [] (stt g6) K))))) : AW Γ l mX4_judge (d + 1) b 19 [vR t, vR r1, vI y2, vI y3, vU, vU] [] (stt g) K := by
  refine aw_iload_n (k' := 3) (by decide +kernel) rfl ?_
  refine aw_aload_n (k' := 0) (by decide +kernel) rfl ?_
  refine gfX4_18 rfl (by decide +kernel) (OB.at ht.ob (by decide)) ?_
  refine ax_icmp_ge (off := 170) (tgt := 194) (x' := wr y3) (y' := wr (g t 2)) (by decide +kernel) (by decide) rfl rfl (fun hc => ?_) (fun hc => ?_)
  · have hF := hF.1 hc
    exact aw_vret (by decide +kernel) rfl hF
  · have hF := hF.2 hc
    refine aw_aload_n (k' := 0) (by decide +kernel) rfl ?_
    refine gfX4_9 rfl (by decide +kernel) (OB.at ht.ob (by decide)) ?_
    refine AW.topR (ht.r0) ?_
    refine aw_iload_n (k' := 3) (by decide +kernel) rfl ?_
    refine aw_callSN (host := "HalfOaths") (y := yX11_cell) (M2 := mX11_cell) (as := [vR (t + 1 + 0), vI y3]) (S := []) (d2 := d) (b2 := 0) (b3 := b) cwX11_cell mlX4_140 stX11_cell (by decide +kernel) rfl (Nat.le_refl _) (Nat.le_of_eq (Nat.zero_add _)) rfl rfl (by simp [oneSlot]) (Nat.le_of_ble_eq_true rfl) (c_cell (ht.a0) ?_)
    show AW Γ l mX4_judge (d + 1) b 35 [vR t, vR r1, vI y2, vI y3, vU, vU] [vI (cel g (t + 1 + 0) y3)] (stt g) K
    refine aw_sipush (n := 1000) (by decide +kernel) (by decide +kernel) ?_
    refine aw_idiv (by decide +kernel) (by decide +kernel) ?_
    refine aw_istore (i := 4) (by decide +kernel) (by decide) ?_
    show AW Γ l mX4_judge (d + 1) b 41 [vR t, vR r1, vI y2, vI y3, vI (iDiv (cel g (t + 1 + 0) y3) 1000), vU] [] (stt g) K
    refine aw_aload_n (k' := 0) (by decide +kernel) rfl ?_
    refine gfX4_9 rfl (by decide +kernel) (OB.at ht.ob (by decide)) ?_
    refine AW.topR (ht.r0) ?_
    refine aw_iload_n (k' := 3) (by decide +kernel) rfl ?_
    refine aw_callSN (host := "HalfOaths") (y := yX11_cell) (M2 := mX11_cell) (as := [vR (t + 1 + 0), vI y3]) (S := []) (d2 := d) (b2 := 0) (b3 := b) cwX11_cell mlX4_140 stX11_cell (by decide +kernel) rfl (Nat.le_refl _) (Nat.le_of_eq (Nat.zero_add _)) rfl rfl (by simp [oneSlot]) (Nat.le_of_ble_eq_true rfl) (c_cell (ht.a0) ?_)
    show AW Γ l mX4_judge (d + 1) b 49 [vR t, vR r1, vI y2, vI y3, vI (iDiv (cel g (t + 1 + 0) y3) 1000), vU] [vI (cel g (t + 1 + 0) y3)] (stt g) K
    refine aw_sipush (n := 1000) (by decide +kernel) (by decide +kernel) ?_
    refine aw_irem (by decide +kernel) (by decide +kernel) ?_
    refine aw_istore (i := 5) (by decide +kernel) (by decide) ?_
    show AW Γ l mX4_judge (d + 1) b 55 [vR t, vR r1, vI y2, vI y3, vI (iDiv (cel g (t + 1 + 0) y3) 1000), vI (iRem (cel g (t + 1 + 0) y3) 1000)] [] (stt g) K
    refine aw_iload (i := 4) (by decide +kernel) rfl ?_
    refine aw_iconst (n := 1) (by decide +kernel) ?_
    refine ax_icmp_gt (off := 33) (tgt := 91) (x' := wr (iDiv (cel g (t + 1 + 0) y3) 1000)) (y' := 1) (by decide +kernel) (by decide) rfl (by decide +kernel) (fun hc => ?_) (fun hc => ?_)
    · have hF := hF.1 hc
      refine aw_iload (i := 4) (by decide +kernel) rfl ?_
      refine aw_iconst (n := 5) (by decide +kernel) ?_
      refine ax_icmp_ne (off := 28) (tgt := 122) (x' := wr (iDiv (cel g (t + 1 + 0) y3) 1000)) (y' := 5) (by decide +kernel) (by decide) rfl (by decide +kernel) (fun hc => ?_) (fun hc => ?_)
      · have hF := hF.1 hc
        refine aw_iload (i := 4) (by decide +kernel) rfl ?_
        refine aw_bipush (n := 7) (by decide +kernel) (by decide +kernel) ?_
        refine ax_icmp_gt (off := 42) (tgt := 168) (x' := wr (iDiv (cel g (t + 1 + 0) y3) 1000)) (y' := 7) (by decide +kernel) (by decide) rfl (by decide +kernel) (fun hc => ?_) (fun hc => ?_)
        · have hF := hF.1 hc
          refine aw_iinc (i := 2) (n := -1) (by decide +kernel) rfl (by decide) ?_
          show AW Γ l mX4_judge (d + 1) b 171 [vR t, vR r1, vI (y2 + (-1)), vI y3, vI (iDiv (cel g (t + 1 + 0) y3) 1000), vI (iRem (cel g (t + 1 + 0) y3) 1000)] [] (stt g) K
          refine aw_aload_n (k' := 0) (by decide +kernel) rfl ?_
          refine aw_iload (i := 4) (by decide +kernel) rfl ?_
          refine aw_aload_n (k' := 0) (by decide +kernel) rfl ?_
          refine gfX4_15 rfl (by decide +kernel) (OB.at ht.ob (by decide)) ?_
          refine AW.topR (ht.r1) ?_
          refine aw_iload_n (k' := 2) (by decide +kernel) rfl ?_
          refine aw_callSN (host := "HalfOaths") (y := yX11_cell) (M2 := mX11_cell) (as := [vR (t + 1 + 1), vI (y2 + (-1))]) (S := [vI (iDiv (cel g (t + 1 + 0) y3) 1000), vR t]) (d2 := d) (b2 := 0) (b3 := b) cwX11_cell mlX4_140 stX11_cell (by decide +kernel) rfl (Nat.le_refl _) (Nat.le_of_eq (Nat.zero_add _)) rfl rfl (by simp [oneSlot]) (Nat.le_of_ble_eq_true rfl) (c_cell (ht.a1) ?_)
          show AW Γ l mX4_judge (d + 1) b 182 [vR t, vR r1, vI (y2 + (-1)), vI y3, vI (iDiv (cel g (t + 1 + 0) y3) 1000), vI (iRem (cel g (t + 1 + 0) y3) 1000)] [vI (cel g (t + 1 + 1) (y2 + (-1))), vI (iDiv (cel g (t + 1 + 0) y3) 1000), vR t] (stt g) K
          refine aw_iload (i := 5) (by decide +kernel) rfl ?_
          refine aw_imul (by decide +kernel) ?_
          refine aw_callV (y := yX4_addLine) (M2 := mX4_addLine) (as := [vI (iDiv (cel g (t + 1 + 0) y3) 1000), vI ((cel g (t + 1 + 1) (y2 + (-1))) * (iRem (cel g (t + 1 + 0) y3) 1000))]) (S := []) (t := t) (d2 := d) (b2 := 0) (b3 := b) cwX4_addLine mlX4_152 imX4_addLine seX4_addLine (by decide +kernel) rfl (ci := 3) rfl (OB.at ht.ob (by decide)) (Nat.le_refl _) (Nat.le_of_eq (Nat.zero_add _)) rfl rfl (by simp [oneSlot]) (Nat.le_of_ble_eq_true rfl) (Ct.mono hF ?_)
          rintro o h' (⟨g1, rfl, rfl, hG⟩ | ⟨E, g, rfl, rfl, hG⟩)
          · show AW Γ l mX4_judge (d + 1) b 188 [vR t, vR r1, vI (y2 + (-1)), vI y3, vI (iDiv (cel g (t + 1 + 0) y3) 1000), vI (iRem (cel g (t + 1 + 0) y3) 1000)] [] (stt g1) K
            refine aw_iinc (i := 3) (n := 1) (by decide +kernel) rfl (by decide) ?_
            show AW Γ l mX4_judge (d + 1) b 191 [vR t, vR r1, vI (y2 + (-1)), vI (y3 + 1), vI (iDiv (cel g (t + 1 + 0) y3) 1000), vI (iRem (cel g (t + 1 + 0) y3) 1000)] [] (stt g1) K
            refine aw_goto (off := -172) (tgt := 19) (by decide +kernel) (by decide) ?_
            exact hG
          · exact hG
        · have hF := hF.2 hc
          refine aw_iinc (i := 2) (n := -1) (by decide +kernel) rfl (by decide) ?_
          show AW Γ l mX4_judge (d + 1) b 132 [vR t, vR r1, vI (y2 + (-1)), vI y3, vI (iDiv (cel g (t + 1 + 0) y3) 1000), vI (iRem (cel g (t + 1 + 0) y3) 1000)] [] (stt g) K
          refine aw_aload_n (k' := 0) (by decide +kernel) rfl ?_
          refine gfX4_15 rfl (by decide +kernel) (OB.at ht.ob (by decide)) ?_
          refine AW.topR (ht.r1) ?_
          refine aw_iload_n (k' := 2) (by decide +kernel) rfl ?_
          refine aw_iconst (n := 1) (by decide +kernel) ?_
          refine aw_isub (by decide +kernel) ?_
          refine aw_iload (i := 4) (by decide +kernel) rfl ?_
          refine aw_aload_n (k' := 0) (by decide +kernel) rfl ?_
          refine gfX4_15 rfl (by decide +kernel) (OB.at ht.ob (by decide)) ?_
          refine AW.topR (ht.r1) ?_
          refine aw_iload_n (k' := 2) (by decide +kernel) rfl ?_
          refine aw_iconst (n := 1) (by decide +kernel) ?_
          refine aw_isub (by decide +kernel) ?_
          refine aw_callSN (host := "HalfOaths") (y := yX11_cell) (M2 := mX11_cell) (as := [vR (t + 1 + 1), vI ((y2 + (-1)) - 1)]) (S := [vI (iDiv (cel g (t + 1 + 0) y3) 1000), vI ((y2 + (-1)) - 1), vR (t + 1 + 1)]) (d2 := d) (b2 := 0) (b3 := b) cwX11_cell mlX4_140 stX11_cell (by decide +kernel) rfl (Nat.le_refl _) (Nat.le_of_eq (Nat.zero_add _)) rfl rfl (by simp [oneSlot]) (Nat.le_of_ble_eq_true rfl) (c_cell (ht.a1) ?_)
          show AW Γ l mX4_judge (d + 1) b 151 [vR t, vR r1, vI (y2 + (-1)), vI y3, vI (iDiv (cel g (t + 1 + 0) y3) 1000), vI (iRem (cel g (t + 1 + 0) y3) 1000)] [vI (cel g (t + 1 + 1) ((y2 + (-1)) - 1)), vI (iDiv (cel g (t + 1 + 0) y3) 1000), vI ((y2 + (-1)) - 1), vR (t + 1 + 1)] (stt g) K
          refine aw_aload_n (k' := 0) (by decide +kernel) rfl ?_
          refine gfX4_15 rfl (by decide +kernel) (OB.at ht.ob (by decide)) ?_
          refine AW.topR (ht.r1) ?_
          refine aw_iload_n (k' := 2) (by decide +kernel) rfl ?_
          refine aw_callSN (host := "HalfOaths") (y := yX11_cell) (M2 := mX11_cell) (as := [vR (t + 1 + 1), vI (y2 + (-1))]) (S := [vI (cel g (t + 1 + 1) ((y2 + (-1)) - 1)), vI (iDiv (cel g (t + 1 + 0) y3) 1000), vI ((y2 + (-1)) - 1), vR (t + 1 + 1)]) (d2 := d) (b2 := 0) (b3 := b) cwX11_cell mlX4_140 stX11_cell (by decide +kernel) rfl (Nat.le_refl _) (Nat.le_of_eq (Nat.zero_add _)) rfl rfl (by simp [oneSlot]) (Nat.le_of_ble_eq_true rfl) (c_cell (ht.a1) ?_)
          show AW Γ l mX4_judge (d + 1) b 159 [vR t, vR r1, vI (y2 + (-1)), vI y3, vI (iDiv (cel g (t + 1 + 0) y3) 1000), vI (iRem (cel g (t + 1 + 0) y3) 1000)] [vI (cel g (t + 1 + 1) (y2 + (-1))), vI (cel g (t + 1 + 1) ((y2 + (-1)) - 1)), vI (iDiv (cel g (t + 1 + 0) y3) 1000), vI ((y2 + (-1)) - 1), vR (t + 1 + 1)] (stt g) K
          refine aw_callS (y := yX4_join) (M2 := mX4_join) (as := [vI (iDiv (cel g (t + 1 + 0) y3) 1000), vI (cel g (t + 1 + 1) ((y2 + (-1)) - 1)), vI (cel g (t + 1 + 1) (y2 + (-1)))]) (S := [vI ((y2 + (-1)) - 1), vR (t + 1 + 1)]) (d2 := d) (b2 := 0) (b3 := b) cwX4_join mlX4_148 stX4_join (by decide +kernel) rfl (Nat.le_refl _) (Nat.le_of_eq (Nat.zero_add _)) rfl rfl (by simp [oneSlot]) (Nat.le_of_ble_eq_true rfl) (Ct.mono hF ?_)
          rintro o h' (⟨v1, g2, rfl, rfl, hG⟩ | ⟨E, g, rfl, rfl, hG⟩)
          · show AW Γ l mX4_judge (d + 1) b 162 [vR t, vR r1, vI (y2 + (-1)), vI y3, vI (iDiv (cel g (t + 1 + 0) y3) 1000), vI (iRem (cel g (t + 1 + 0) y3) 1000)] [vI v1, vI ((y2 + (-1)) - 1), vR (t + 1 + 1)] (stt g2) K
            refine aw_callSN (host := "HalfOaths") (y := yX11_put) (M2 := mX11_put) (as := [vR (t + 1 + 1), vI ((y2 + (-1)) - 1), vI v1]) (S := []) (d2 := d) (b2 := 0) (b3 := b) cwX11_put mlX4_144 stX11_put (by decide +kernel) rfl (Nat.le_refl _) (Nat.le_of_eq (Nat.zero_add _)) rfl rfl (by simp [oneSlot]) (Nat.le_of_ble_eq_true rfl) (c_put (ht.a1) ?_)
            show AW Γ l mX4_judge (d + 1) b 165 [vR t, vR r1, vI (y2 + (-1)), vI y3, vI (iDiv (cel g (t + 1 + 0) y3) 1000), vI (iRem (cel g (t + 1 + 0) y3) 1000)] [] (stt (puc g2 (t + 1 + 1) ((y2 + (-1)) - 1) v1)) K
            show AW Γ l mX4_judge (d + 1) b 165 [vR t, vR r1, vI (y2 + (-1)), vI y3, vI (iDiv (cel g (t + 1 + 0) y3) 1000), vI (iRem (cel g (t + 1 + 0) y3) 1000)] [] (stt (puc g2 (t + 1 + 1) ((y2 + (-1)) - 1) v1)) K
            generalize eg3 : puc g2 (t + 1 + 1) ((y2 + (-1)) - 1) v1 = g3
            replace hG := hG g3 eg3.symm
            refine aw_goto (off := 23) (tgt := 188) (by decide +kernel) (by decide) ?_
            refine aw_iinc (i := 3) (n := 1) (by decide +kernel) rfl (by decide) ?_
            show AW Γ l mX4_judge (d + 1) b 191 [vR t, vR r1, vI (y2 + (-1)), vI (y3 + 1), vI (iDiv (cel g (t + 1 + 0) y3) 1000), vI (iRem (cel g (t + 1 + 0) y3) 1000)] [] (stt g3) K
            refine aw_goto (off := -172) (tgt := 19) (by decide +kernel) (by decide) ?_
            exact hG
          · exact hG
      · have hF := hF.2 hc
        refine aw_aload_n (k' := 0) (by decide +kernel) rfl ?_
        refine gfX4_15 rfl (by decide +kernel) (OB.at ht.ob (by decide)) ?_
        refine AW.topR (ht.r1) ?_
        refine aw_iload_n (k' := 2) (by decide +kernel) rfl ?_
        refine aw_iconst (n := 1) (by decide +kernel) ?_
        refine aw_isub (by decide +kernel) ?_
        refine aw_iconst (n := 1) (by decide +kernel) ?_
        refine aw_aload_n (k' := 0) (by decide +kernel) rfl ?_
        refine gfX4_15 rfl (by decide +kernel) (OB.at ht.ob (by decide)) ?_
        refine AW.topR (ht.r1) ?_
        refine aw_iload_n (k' := 2) (by decide +kernel) rfl ?_
        refine aw_iconst (n := 1) (by decide +kernel) ?_
        refine aw_isub (by decide +kernel) ?_
        refine aw_callSN (host := "HalfOaths") (y := yX11_cell) (M2 := mX11_cell) (as := [vR (t + 1 + 1), vI (y2 - 1)]) (S := [vI 1, vI (y2 - 1), vR (t + 1 + 1)]) (d2 := d) (b2 := 0) (b3 := b) cwX11_cell mlX4_140 stX11_cell (by decide +kernel) rfl (Nat.le_refl _) (Nat.le_of_eq (Nat.zero_add _)) rfl rfl (by simp [oneSlot]) (Nat.le_of_ble_eq_true rfl) (c_cell (ht.a1) ?_)
        show AW Γ l mX4_judge (d + 1) b 115 [vR t, vR r1, vI y2, vI y3, vI (iDiv (cel g (t + 1 + 0) y3) 1000), vI (iRem (cel g (t + 1 + 0) y3) 1000)] [vI (cel g (t + 1 + 1) (y2 - 1)), vI 1, vI (y2 - 1), vR (t + 1 + 1)] (stt g) K
        refine aw_isub (by decide +kernel) ?_
        refine aw_callSN (host := "HalfOaths") (y := yX11_put) (M2 := mX11_put) (as := [vR (t + 1 + 1), vI (y2 - 1), vI (1 - (cel g (t + 1 + 1) (y2 - 1)))]) (S := []) (d2 := d) (b2 := 0) (b3 := b) cwX11_put mlX4_144 stX11_put (by decide +kernel) rfl (Nat.le_refl _) (Nat.le_of_eq (Nat.zero_add _)) rfl rfl (by simp [oneSlot]) (Nat.le_of_ble_eq_true rfl) (c_put (ht.a1) ?_)
        show AW Γ l mX4_judge (d + 1) b 119 [vR t, vR r1, vI y2, vI y3, vI (iDiv (cel g (t + 1 + 0) y3) 1000), vI (iRem (cel g (t + 1 + 0) y3) 1000)] [] (stt (puc g (t + 1 + 1) (y2 - 1) (1 - (cel g (t + 1 + 1) (y2 - 1))))) K
        show AW Γ l mX4_judge (d + 1) b 119 [vR t, vR r1, vI y2, vI y3, vI (iDiv (cel g (t + 1 + 0) y3) 1000), vI (iRem (cel g (t + 1 + 0) y3) 1000)] [] (stt (puc g (t + 1 + 1) (y2 - 1) (1 - (cel g (t + 1 + 1) (y2 - 1))))) K
        generalize eg4 : puc g (t + 1 + 1) (y2 - 1) (1 - (cel g (t + 1 + 1) (y2 - 1))) = g4
        replace hF := hF g4 eg4.symm
        refine aw_goto (off := 69) (tgt := 188) (by decide +kernel) (by decide) ?_
        refine aw_iinc (i := 3) (n := 1) (by decide +kernel) rfl (by decide) ?_
        show AW Γ l mX4_judge (d + 1) b 191 [vR t, vR r1, vI y2, vI (y3 + 1), vI (iDiv (cel g (t + 1 + 0) y3) 1000), vI (iRem (cel g (t + 1 + 0) y3) 1000)] [] (stt g4) K
        refine aw_goto (off := -172) (tgt := 19) (by decide +kernel) (by decide) ?_
        exact hF
    · have hF := hF.2 hc
      refine aw_aload_n (k' := 0) (by decide +kernel) rfl ?_
      refine gfX4_15 rfl (by decide +kernel) (OB.at ht.ob (by decide)) ?_
      refine AW.topR (ht.r1) ?_
      refine aw_iload_n (k' := 2) (by decide +kernel) rfl ?_
      refine aw_iload (i := 4) (by decide +kernel) rfl ?_
      refine ax_if_ne (off := 8) (tgt := 76) (x' := wr (iDiv (cel g (t + 1 + 0) y3) 1000)) (by decide +kernel) (by decide) rfl (fun hc => ?_) (fun hc => ?_)
      · have hF := hF.1 hc
        refine aw_aload_n (k' := 1) (by decide +kernel) rfl ?_
        refine aw_iload (i := 5) (by decide +kernel) rfl ?_
        refine aw_callSN (host := "HalfOaths") (y := yX11_cell) (M2 := mX11_cell) (as := [vR r1, vI (iRem (cel g (t + 1 + 0) y3) 1000)]) (S := [vI y2, vR (t + 1 + 1)]) (d2 := d) (b2 := 0) (b3 := b) cwX11_cell mlX4_140 stX11_cell (by decide +kernel) rfl (Nat.le_refl _) (Nat.le_of_eq (Nat.zero_add _)) rfl rfl (by simp [oneSlot]) (Nat.le_of_ble_eq_true rfl) (c_cell hr1 ?_)
        show AW Γ l mX4_judge (d + 1) b 82 [vR t, vR r1, vI y2, vI y3, vI (iDiv (cel g (t + 1 + 0) y3) 1000), vI (iRem (cel g (t + 1 + 0) y3) 1000)] [vI (cel g r1 (iRem (cel g (t + 1 + 0) y3) 1000)), vI y2, vR (t + 1 + 1)] (stt g) K
        refine aw_callSN (host := "HalfOaths") (y := yX11_put) (M2 := mX11_put) (as := [vR (t + 1 + 1), vI y2, vI (cel g r1 (iRem (cel g (t + 1 + 0) y3) 1000))]) (S := []) (d2 := d) (b2 := 0) (b3 := b) cwX11_put mlX4_144 stX11_put (by decide +kernel) rfl (Nat.le_refl _) (Nat.le_of_eq (Nat.zero_add _)) rfl rfl (by simp [oneSlot]) (Nat.le_of_ble_eq_true rfl) (c_put (ht.a1) ?_)
        show AW Γ l mX4_judge (d + 1) b 85 [vR t, vR r1, vI y2, vI y3, vI (iDiv (cel g (t + 1 + 0) y3) 1000), vI (iRem (cel g (t + 1 + 0) y3) 1000)] [] (stt (puc g (t + 1 + 1) y2 (cel g r1 (iRem (cel g (t + 1 + 0) y3) 1000)))) K
        show AW Γ l mX4_judge (d + 1) b 85 [vR t, vR r1, vI y2, vI y3, vI (iDiv (cel g (t + 1 + 0) y3) 1000), vI (iRem (cel g (t + 1 + 0) y3) 1000)] [] (stt (puc g (t + 1 + 1) y2 (cel g r1 (iRem (cel g (t + 1 + 0) y3) 1000)))) K
        generalize eg5 : puc g (t + 1 + 1) y2 (cel g r1 (iRem (cel g (t + 1 + 0) y3) 1000)) = g5
        replace hF := hF g5 eg5.symm
        refine aw_iinc (i := 2) (n := 1) (by decide +kernel) rfl (by decide) ?_
        show AW Γ l mX4_judge (d + 1) b 88 [vR t, vR r1, vI (y2 + 1), vI y3, vI (iDiv (cel g (t + 1 + 0) y3) 1000), vI (iRem (cel g (t + 1 + 0) y3) 1000)] [] (stt g5) K
        refine aw_goto (off := 100) (tgt := 188) (by decide +kernel) (by decide) ?_
        refine aw_iinc (i := 3) (n := 1) (by decide +kernel) rfl (by decide) ?_
        show AW Γ l mX4_judge (d + 1) b 191 [vR t, vR r1, vI (y2 + 1), vI (y3 + 1), vI (iDiv (cel g (t + 1 + 0) y3) 1000), vI (iRem (cel g (t + 1 + 0) y3) 1000)] [] (stt g5) K
        refine aw_goto (off := -172) (tgt := 19) (by decide +kernel) (by decide) ?_
        exact hF
      · have hF := hF.2 hc
        refine aw_iload (i := 5) (by decide +kernel) rfl ?_
        refine aw_goto (off := 9) (tgt := 82) (by decide +kernel) (by decide) ?_
        refine aw_callSN (host := "HalfOaths") (y := yX11_put) (M2 := mX11_put) (as := [vR (t + 1 + 1), vI y2, vI (iRem (cel g (t + 1 + 0) y3) 1000)]) (S := []) (d2 := d) (b2 := 0) (b3 := b) cwX11_put mlX4_144 stX11_put (by decide +kernel) rfl (Nat.le_refl _) (Nat.le_of_eq (Nat.zero_add _)) rfl rfl (by simp [oneSlot]) (Nat.le_of_ble_eq_true rfl) (c_put (ht.a1) ?_)
        show AW Γ l mX4_judge (d + 1) b 85 [vR t, vR r1, vI y2, vI y3, vI (iDiv (cel g (t + 1 + 0) y3) 1000), vI (iRem (cel g (t + 1 + 0) y3) 1000)] [] (stt (puc g (t + 1 + 1) y2 (iRem (cel g (t + 1 + 0) y3) 1000))) K
        show AW Γ l mX4_judge (d + 1) b 85 [vR t, vR r1, vI y2, vI y3, vI (iDiv (cel g (t + 1 + 0) y3) 1000), vI (iRem (cel g (t + 1 + 0) y3) 1000)] [] (stt (puc g (t + 1 + 1) y2 (iRem (cel g (t + 1 + 0) y3) 1000))) K
        generalize eg6 : puc g (t + 1 + 1) y2 (iRem (cel g (t + 1 + 0) y3) 1000) = g6
        replace hF := hF g6 eg6.symm
        refine aw_iinc (i := 2) (n := 1) (by decide +kernel) rfl (by decide) ?_
        show AW Γ l mX4_judge (d + 1) b 88 [vR t, vR r1, vI (y2 + 1), vI y3, vI (iDiv (cel g (t + 1 + 0) y3) 1000), vI (iRem (cel g (t + 1 + 0) y3) 1000)] [] (stt g6) K
        refine aw_goto (off := 100) (tgt := 188) (by decide +kernel) (by decide) ?_
        refine aw_iinc (i := 3) (n := 1) (by decide +kernel) rfl (by decide) ?_
        show AW Γ l mX4_judge (d + 1) b 191 [vR t, vR r1, vI (y2 + 1), vI (y3 + 1), vI (iDiv (cel g (t + 1 + 0) y3) 1000), vI (iRem (cel g (t + 1 + 0) y3) 1000)] [] (stt g6) K
        refine aw_goto (off := -172) (tgt := 19) (by decide +kernel) (by decide) ?_
        exact hF

set_option maxHeartbeats 1000000 in
theorem wpX4_join {Γ : Cfg} {l : Launch} {d b : Nat} {g : GG} {K : Ou → HP → Prop} {x0 : Int} {x1 : Int} {x2 : Int} (hF : (¬ wr x0 = 2 → (¬ wr x0 = 3 → (¬ wr x0 = 4 → (¬ wr x0 = 6 → K (.inl (vI (iOr x1 x2))) (stt g)) ∧ (¬ (¬ wr x0 = 6) → K (.inl (vI (iAnd x1 x2))) (stt g))) ∧ (¬ (¬ wr x0 = 4) → (wr x1 ≤ wr x2 → K (.inl (vI 0)) (stt g)) ∧ (¬ (wr x1 ≤ wr x2) → K (.inl (vI 1)) (stt g)))) ∧ (¬ (¬ wr x0 = 3) → (wr x2 ≤ wr x1 → K (.inl (vI 0)) (stt g)) ∧ (¬ (wr x2 ≤ wr x1) → K (.inl (vI 1)) (stt g)))) ∧ (¬ (¬ wr x0 = 2) → K (.inl (vI (x1 + x2))) (stt g))) : Ct Γ l d b yX4_join mX4_join [vI x0, vI x1, vI x2] (stt g) K := by
  refine Ct.enter (L := [vI x0, vI x1, vI x2]) rfl rfl rfl (by decide +kernel) (by simp [oneSlot]) (Nat.le_of_ble_eq_true rfl) rfl ?_
  refine aw_iload_n (k' := 0) (by decide +kernel) rfl ?_
  refine aw_iconst (n := 2) (by decide +kernel) ?_
  refine ax_icmp_ne (off := 7) (tgt := 9) (x' := wr x0) (y' := 2) (by decide +kernel) (by decide) rfl (by decide +kernel) (fun hc => ?_) (fun hc => ?_)
  · have hF := hF.1 hc
    refine aw_iload_n (k' := 0) (by decide +kernel) rfl ?_
    refine aw_iconst (n := 3) (by decide +kernel) ?_
    refine ax_icmp_ne (off := 14) (tgt := 25) (x' := wr x0) (y' := 3) (by decide +kernel) (by decide) rfl (by decide +kernel) (fun hc => ?_) (fun hc => ?_)
    · have hF := hF.1 hc
      refine aw_iload_n (k' := 0) (by decide +kernel) rfl ?_
      refine aw_iconst (n := 4) (by decide +kernel) ?_
      refine ax_icmp_ne (off := 14) (tgt := 41) (x' := wr x0) (y' := 4) (by decide +kernel) (by decide) rfl (by decide +kernel) (fun hc => ?_) (fun hc => ?_)
      · have hF := hF.1 hc
        refine aw_iload_n (k' := 0) (by decide +kernel) rfl ?_
        refine aw_bipush (n := 6) (by decide +kernel) (by decide +kernel) ?_
        refine ax_icmp_ne (off := 9) (tgt := 53) (x' := wr x0) (y' := 6) (by decide +kernel) (by decide) rfl (by decide +kernel) (fun hc => ?_) (fun hc => ?_)
        · have hF := hF.1 hc
          refine aw_iload_n (k' := 1) (by decide +kernel) rfl ?_
          refine aw_iload_n (k' := 2) (by decide +kernel) rfl ?_
          refine aw_ior (by decide +kernel) ?_
          exact aw_iret (by decide +kernel) rfl hF
        · have hF := hF.2 hc
          refine aw_iload_n (k' := 1) (by decide +kernel) rfl ?_
          refine aw_iload_n (k' := 2) (by decide +kernel) rfl ?_
          refine aw_iand (by decide +kernel) ?_
          refine aw_goto (off := 6) (tgt := 56) (by decide +kernel) (by decide) ?_
          exact aw_iret (by decide +kernel) rfl hF
      · have hF := hF.2 hc
        refine aw_iload_n (k' := 1) (by decide +kernel) rfl ?_
        refine aw_iload_n (k' := 2) (by decide +kernel) rfl ?_
        refine ax_icmp_le (off := 7) (tgt := 39) (x' := wr x1) (y' := wr x2) (by decide +kernel) (by decide) rfl rfl (fun hc => ?_) (fun hc => ?_)
        · have hF := hF.1 hc
          refine aw_iconst (n := 0) (by decide +kernel) ?_
          exact aw_iret (by decide +kernel) rfl hF
        · have hF := hF.2 hc
          refine aw_iconst (n := 1) (by decide +kernel) ?_
          refine aw_goto (off := 4) (tgt := 40) (by decide +kernel) (by decide) ?_
          exact aw_iret (by decide +kernel) rfl hF
    · have hF := hF.2 hc
      refine aw_iload_n (k' := 1) (by decide +kernel) rfl ?_
      refine aw_iload_n (k' := 2) (by decide +kernel) rfl ?_
      refine ax_icmp_ge (off := 7) (tgt := 23) (x' := wr x1) (y' := wr x2) (by decide +kernel) (by decide) rfl rfl (fun hc => ?_) (fun hc => ?_)
      · have hF := hF.1 hc
        refine aw_iconst (n := 0) (by decide +kernel) ?_
        exact aw_iret (by decide +kernel) rfl hF
      · have hF := hF.2 hc
        refine aw_iconst (n := 1) (by decide +kernel) ?_
        refine aw_goto (off := 4) (tgt := 24) (by decide +kernel) (by decide) ?_
        exact aw_iret (by decide +kernel) rfl hF
  · have hF := hF.2 hc
    refine aw_iload_n (k' := 1) (by decide +kernel) rfl ?_
    refine aw_iload_n (k' := 2) (by decide +kernel) rfl ?_
    refine aw_iadd (by decide +kernel) ?_
    exact aw_iret (by decide +kernel) rfl hF

set_option maxHeartbeats 1000000 in
theorem wpX4_addLine {Γ : Cfg} {l : Launch} {d b : Nat} {g : GG} {K : Ou → HP → Prop} {t : Int} (ht : LA t) {x1 : Int} {x2 : Int} (hF : (¬ wr x1 = 8 → (¬ wr x1 = 9 → K (.inl vU) (stt (upd2 g t 7 ((g t 7) + x2)))) ∧ (¬ (¬ wr x1 = 9) → K (.inl vU) (stt (upd2 g t 6 ((g t 6) + x2))))) ∧ (¬ (¬ wr x1 = 8) → K (.inl vU) (stt (upd2 g t 5 ((g t 5) + x2))))) : Ct Γ l d b yX4_addLine mX4_addLine [vR t, vI x1, vI x2] (stt g) K := by
  refine Ct.enter (L := [vR t, vI x1, vI x2]) rfl rfl rfl (by decide +kernel) (by simp [oneSlot]) (Nat.le_of_ble_eq_true rfl) rfl ?_
  refine aw_iload_n (k' := 1) (by decide +kernel) rfl ?_
  refine aw_bipush (n := 8) (by decide +kernel) (by decide +kernel) ?_
  refine ax_icmp_ne (off := 16) (tgt := 19) (x' := wr x1) (y' := 8) (by decide +kernel) (by decide) rfl (by decide +kernel) (fun hc => ?_) (fun hc => ?_)
  · have hF := hF.1 hc
    refine aw_iload_n (k' := 1) (by decide +kernel) rfl ?_
    refine aw_bipush (n := 9) (by decide +kernel) (by decide +kernel) ?_
    refine ax_icmp_ne (off := 16) (tgt := 38) (x' := wr x1) (y' := 9) (by decide +kernel) (by decide) rfl (by decide +kernel) (fun hc => ?_) (fun hc => ?_)
    · have hF := hF.1 hc
      refine aw_aload_n (k' := 0) (by decide +kernel) rfl ?_
      refine aw_dup (by decide +kernel) trivial ?_
      refine gfX4_35 rfl (by decide +kernel) (OB.at ht.ob (by decide)) ?_
      refine aw_iload_n (k' := 2) (by decide +kernel) rfl ?_
      refine aw_iadd (by decide +kernel) ?_
      refine pfX4_35 rfl (by decide +kernel) (OB.at ht.ob (by decide)) ?_
      show AW Γ l mX4_addLine d b 48 [vR t, vI x1, vI x2] [] (stt (upd2 g t 7 ((g t 7) + x2))) K
      exact aw_vret (by decide +kernel) rfl hF
    · have hF := hF.2 hc
      refine aw_aload_n (k' := 0) (by decide +kernel) rfl ?_
      refine aw_dup (by decide +kernel) trivial ?_
      refine gfX4_32 rfl (by decide +kernel) (OB.at ht.ob (by decide)) ?_
      refine aw_iload_n (k' := 2) (by decide +kernel) rfl ?_
      refine aw_iadd (by decide +kernel) ?_
      refine pfX4_32 rfl (by decide +kernel) (OB.at ht.ob (by decide)) ?_
      show AW Γ l mX4_addLine d b 35 [vR t, vI x1, vI x2] [] (stt (upd2 g t 6 ((g t 6) + x2))) K
      refine aw_goto (off := 13) (tgt := 48) (by decide +kernel) (by decide) ?_
      exact aw_vret (by decide +kernel) rfl hF
  · have hF := hF.2 hc
    refine aw_aload_n (k' := 0) (by decide +kernel) rfl ?_
    refine aw_dup (by decide +kernel) trivial ?_
    refine gfX4_29 rfl (by decide +kernel) (OB.at ht.ob (by decide)) ?_
    refine aw_iload_n (k' := 2) (by decide +kernel) rfl ?_
    refine aw_iadd (by decide +kernel) ?_
    refine pfX4_29 rfl (by decide +kernel) (OB.at ht.ob (by decide)) ?_
    show AW Γ l mX4_addLine d b 16 [vR t, vI x1, vI x2] [] (stt (upd2 g t 5 ((g t 5) + x2))) K
    refine aw_goto (off := 32) (tgt := 48) (by decide +kernel) (by decide) ?_
    exact aw_vret (by decide +kernel) rfl hF

set_option maxHeartbeats 1000000 in
theorem wpX5_find {Γ : Cfg} {l : Launch} {d b : Nat} {g : GG} {K : Ou → HP → Prop} {t1 : Int} (ht1 : HI t1) {x2 : Int} (hF : Ct Γ l d 0 yX5_partUnits mX5_partUnits [vR 161, vR t1] (stt (upd2 (upd2 g 161 6 x2) 161 8 (-1))) (bV (fun g1 => (wr (g1 161 7) ≤ 6 → Ct Γ l d 0 yX5_placeFrom mX5_placeFrom [vR 161, vR t1, vI 0, vI 0, vI 0, vI 9999] (stt g1) (bV (fun g2 => K (.inl (vI 1)) (stt g2)) K)) ∧ (¬ (wr (g1 161 7) ≤ 6) → K (.inl (vI 0)) (stt g1))) K)) : Ct Γ l (d + 1) b yX5_find mX5_find [vR 161, vR t1, vI x2] (stt g) K := by
  refine Ct.enter (L := [vR 161, vR t1, vI x2]) rfl rfl rfl (by decide +kernel) (by simp [oneSlot]) (Nat.le_of_ble_eq_true rfl) rfl ?_
  refine aw_aload_n (k' := 0) (by decide +kernel) rfl ?_
  refine aw_iload_n (k' := 2) (by decide +kernel) rfl ?_
  refine pfX5_31 rfl (by decide +kernel) (OB.at (ci := 4) (show shp 161 = (14, 0) by decide +kernel) (by decide)) ?_
  show AW Γ l mX5_find (d + 1) b 5 [vR 161, vR t1, vI x2] [] (stt (upd2 g 161 6 x2)) K
  refine aw_aload_n (k' := 0) (by decide +kernel) rfl ?_
  refine aw_iconst (n := -1) (by decide +kernel) ?_
  refine pfX5_38 rfl (by decide +kernel) (OB.at (ci := 4) (show shp 161 = (14, 0) by decide +kernel) (by decide)) ?_
  show AW Γ l mX5_find (d + 1) b 10 [vR 161, vR t1, vI x2] [] (stt (upd2 (upd2 g 161 6 x2) 161 8 (-1))) K
  refine aw_aload_n (k' := 0) (by decide +kernel) rfl ?_
  refine aw_aload_n (k' := 1) (by decide +kernel) rfl ?_
  refine aw_callV (y := yX5_partUnits) (M2 := mX5_partUnits) (as := [vR t1]) (S := []) (t := 161) (d2 := d) (b2 := 0) (b3 := b) cwX5_partUnits mlX5_41 imX5_partUnits seX5_partUnits (by decide +kernel) rfl (ci := 4) rfl (OB.at (ci := 4) (show shp 161 = (14, 0) by decide +kernel) (by decide)) (Nat.le_refl _) (Nat.le_of_eq (Nat.zero_add _)) rfl rfl (by simp [oneSlot]) (Nat.le_of_ble_eq_true rfl) (Ct.mono hF ?_)
  rintro o h' (⟨g1, rfl, rfl, hG⟩ | ⟨E, g, rfl, rfl, hG⟩)
  · show AW Γ l mX5_find (d + 1) b 15 [vR 161, vR t1, vI x2] [] (stt g1) K
    refine aw_aload_n (k' := 0) (by decide +kernel) rfl ?_
    refine gfX5_35 rfl (by decide +kernel) (OB.at (ci := 4) (show shp 161 = (14, 0) by decide +kernel) (by decide)) ?_
    refine aw_bipush (n := 6) (by decide +kernel) (by decide +kernel) ?_
    refine ax_icmp_le (off := 5) (tgt := 26) (x' := wr (g1 161 7)) (y' := 6) (by decide +kernel) (by decide) rfl (by decide +kernel) (fun hc => ?_) (fun hc => ?_)
    · have hG := hG.1 hc
      refine aw_aload_n (k' := 0) (by decide +kernel) rfl ?_
      refine aw_aload_n (k' := 1) (by decide +kernel) rfl ?_
      refine aw_iconst (n := 0) (by decide +kernel) ?_
      refine aw_iconst (n := 0) (by decide +kernel) ?_
      refine aw_iconst (n := 0) (by decide +kernel) ?_
      refine aw_sipush (n := 9999) (by decide +kernel) (by decide +kernel) ?_
      refine aw_callS (y := yX5_placeFrom) (M2 := mX5_placeFrom) (as := [vR 161, vR t1, vI 0, vI 0, vI 0, vI 9999]) (S := []) (d2 := d) (b2 := 0) (b3 := b) cwX5_placeFrom mlX5_45 stX5_placeFrom (by decide +kernel) rfl (Nat.le_refl _) (Nat.le_of_eq (Nat.zero_add _)) rfl rfl (by simp [oneSlot]) (Nat.le_of_ble_eq_true rfl) (Ct.mono hG ?_)
      rintro o h' (⟨g2, rfl, rfl, hG⟩ | ⟨E, g, rfl, rfl, hG⟩)
      · show AW Γ l mX5_find (d + 1) b 37 [vR 161, vR t1, vI x2] [] (stt g2) K
        refine aw_iconst (n := 1) (by decide +kernel) ?_
        exact aw_zret (by decide +kernel) rfl rfl hG
      · exact hG
    · have hG := hG.2 hc
      refine aw_iconst (n := 0) (by decide +kernel) ?_
      exact aw_zret (by decide +kernel) rfl rfl hG
  · exact hG

set_option maxHeartbeats 1000000 in
theorem wpX5_partUnits {Γ : Cfg} {l : Launch} {d b : Nat} {g : GG} {K : Ou → HP → Prop} {t1 : Int} (ht1 : HI t1) (hF : AW Γ l mX5_partUnits (d + 1) b 9 [vR 161, vR t1, vI 0, vI 0, vU] [] (stt (upd2 g 161 7 0)) K) : Ct Γ l (d + 1) b yX5_partUnits mX5_partUnits [vR 161, vR t1] (stt g) K := by
  refine Ct.enter (L := [vR 161, vR t1, vU, vU, vU]) rfl rfl rfl (by decide +kernel) (by simp [oneSlot]) (Nat.le_of_ble_eq_true rfl) rfl ?_
  refine aw_aload_n (k' := 0) (by decide +kernel) rfl ?_
  refine aw_iconst (n := 0) (by decide +kernel) ?_
  refine pfX5_35 rfl (by decide +kernel) (OB.at (ci := 4) (show shp 161 = (14, 0) by decide +kernel) (by decide)) ?_
  show AW Γ l mX5_partUnits (d + 1) b 5 [vR 161, vR t1, vU, vU, vU] [] (stt (upd2 g 161 7 0)) K
  refine aw_iconst (n := 0) (by decide +kernel) ?_
  refine aw_istore_n (k' := 2) (by decide +kernel) (by decide) ?_
  show AW Γ l mX5_partUnits (d + 1) b 7 [vR 161, vR t1, vI 0, vU, vU] [] (stt (upd2 g 161 7 0)) K
  refine aw_iconst (n := 0) (by decide +kernel) ?_
  refine aw_istore_n (k' := 3) (by decide +kernel) (by decide) ?_
  show AW Γ l mX5_partUnits (d + 1) b 9 [vR 161, vR t1, vI 0, vI 0, vU] [] (stt (upd2 g 161 7 0)) K
  exact hF
set_option maxHeartbeats 1000000 in
theorem wpX5_partUnits_9 {Γ : Cfg} {l : Launch} {d b : Nat} {g : GG} {K : Ou → HP → Prop} {t1 : Int} (ht1 : HI t1) {y2 : Int} {y3 : Int} (hF : (wr (cel g (t1 + 1 + 1) (g 161 6)) ≤ wr y3 → K (.inl vU) (stt g)) ∧ (¬ (wr (cel g (t1 + 1 + 1) (g 161 6)) ≤ wr y3) → (¬ wr y2 = 0 → AW Γ l mX5_partUnits (d + 1) b 62 [vR 161, vR t1, vI y2, vI y3, vU] [] (stt g) K) ∧ (¬ (¬ wr y2 = 0) → (∀ g1 : GG, g1 = puc (puc g 162 (g 161 7) y3) 163 ((puc g 162 (g 161 7) y3) 161 7) 0 → AW Γ l mX5_partUnits (d + 1) b 62 [vR 161, vR t1, vI y2, vI y3, vU] [] (stt (upd2 g1 161 7 ((g1 161 7) + 1))) K)))) : AW Γ l mX5_partUnits (d + 1) b 9 [vR 161, vR t1, vI y2, vI y3, vU] [] (stt g) K := by
  refine aw_iload_n (k' := 3) (by decide +kernel) rfl ?_
  refine aw_aload_n (k' := 1) (by decide +kernel) rfl ?_
  refine gfX5_49 rfl (by decide +kernel) (OB.at ht1.ob (by decide)) ?_
  refine AW.topR (ht1.r1) ?_
  refine aw_aload_n (k' := 0) (by decide +kernel) rfl ?_
  refine gfX5_31 rfl (by decide +kernel) (OB.at (ci := 4) (show shp 161 = (14, 0) by decide +kernel) (by decide)) ?_
  refine aw_callSN (host := "HalfOaths") (y := yX11_cell) (M2 := mX11_cell) (as := [vR (t1 + 1 + 1), vI (g 161 6)]) (S := [vI y3]) (d2 := d) (b2 := 0) (b3 := b) cwX11_cell mlX5_54 stX11_cell (by decide +kernel) rfl (Nat.le_refl _) (Nat.le_of_eq (Nat.zero_add _)) rfl rfl (by simp [oneSlot]) (Nat.le_of_ble_eq_true rfl) (c_cell (ht1.a1) ?_)
  show AW Γ l mX5_partUnits (d + 1) b 21 [vR 161, vR t1, vI y2, vI y3, vU] [vI (cel g (t1 + 1 + 1) (g 161 6)), vI y3] (stt g) K
  refine ax_icmp_ge (off := 112) (tgt := 133) (x' := wr y3) (y' := wr (cel g (t1 + 1 + 1) (g 161 6))) (by decide +kernel) (by decide) rfl rfl (fun hc => ?_) (fun hc => ?_)
  · have hF := hF.1 hc
    exact aw_vret (by decide +kernel) rfl hF
  · have hF := hF.2 hc
    refine aw_iload_n (k' := 2) (by decide +kernel) rfl ?_
    refine ax_if_ne (off := 37) (tgt := 62) (x' := wr y2) (by decide +kernel) (by decide) rfl (fun hc => ?_) (fun hc => ?_)
    · have hF := hF.1 hc
      exact hF
    · have hF := hF.2 hc
      refine aw_aload_n (k' := 0) (by decide +kernel) rfl ?_
      refine gfX5_15 rfl (by decide +kernel) (OB.at (ci := 4) (show shp 161 = (14, 0) by decide +kernel) (by decide)) ?_
      refine AW.topR (show RC 161 1 = 162 by decide +kernel) ?_
      refine aw_aload_n (k' := 0) (by decide +kernel) rfl ?_
      refine gfX5_35 rfl (by decide +kernel) (OB.at (ci := 4) (show shp 161 = (14, 0) by decide +kernel) (by decide)) ?_
      refine aw_iload_n (k' := 3) (by decide +kernel) rfl ?_
      refine aw_callSN (host := "HalfOaths") (y := yX11_put) (M2 := mX11_put) (as := [vR 162, vI (g 161 7), vI y3]) (S := []) (d2 := d) (b2 := 0) (b3 := b) cwX11_put mlX5_58 stX11_put (by decide +kernel) rfl (Nat.le_refl _) (Nat.le_of_eq (Nat.zero_add _)) rfl rfl (by simp [oneSlot]) (Nat.le_of_ble_eq_true rfl) (c_put (show (shp 162).1 = 0 by decide +kernel) ?_)
      show AW Γ l mX5_partUnits (d + 1) b 40 [vR 161, vR t1, vI y2, vI y3, vU] [] (stt (puc g 162 (g 161 7) y3)) K
      refine aw_aload_n (k' := 0) (by decide +kernel) rfl ?_
      refine gfX5_19 rfl (by decide +kernel) (OB.at (ci := 4) (show shp 161 = (14, 0) by decide +kernel) (by decide)) ?_
      refine AW.topR (show RC 161 2 = 163 by decide +kernel) ?_
      refine aw_aload_n (k' := 0) (by decide +kernel) rfl ?_
      refine gfX5_35 rfl (by decide +kernel) (OB.at (ci := 4) (show shp 161 = (14, 0) by decide +kernel) (by decide)) ?_
      refine aw_iconst (n := 0) (by decide +kernel) ?_
      refine aw_callSN (host := "HalfOaths") (y := yX11_put) (M2 := mX11_put) (as := [vR 163, vI ((puc g 162 (g 161 7) y3) 161 7), vI 0]) (S := []) (d2 := d) (b2 := 0) (b3 := b) cwX11_put mlX5_58 stX11_put (by decide +kernel) rfl (Nat.le_refl _) (Nat.le_of_eq (Nat.zero_add _)) rfl rfl (by simp [oneSlot]) (Nat.le_of_ble_eq_true rfl) (c_put (show (shp 163).1 = 0 by decide +kernel) ?_)
      show AW Γ l mX5_partUnits (d + 1) b 52 [vR 161, vR t1, vI y2, vI y3, vU] [] (stt (puc (puc g 162 (g 161 7) y3) 163 ((puc g 162 (g 161 7) y3) 161 7) 0)) K
      show AW Γ l mX5_partUnits (d + 1) b 52 [vR 161, vR t1, vI y2, vI y3, vU] [] (stt (puc (puc g 162 (g 161 7) y3) 163 ((puc g 162 (g 161 7) y3) 161 7) 0)) K
      generalize eg1 : puc (puc g 162 (g 161 7) y3) 163 ((puc g 162 (g 161 7) y3) 161 7) 0 = g1
      replace hF := hF g1 eg1.symm
      refine aw_aload_n (k' := 0) (by decide +kernel) rfl ?_
      refine aw_dup (by decide +kernel) trivial ?_
      refine gfX5_35 rfl (by decide +kernel) (OB.at (ci := 4) (show shp 161 = (14, 0) by decide +kernel) (by decide)) ?_
      refine aw_iconst (n := 1) (by decide +kernel) ?_
      refine aw_iadd (by decide +kernel) ?_
      refine pfX5_35 rfl (by decide +kernel) (OB.at (ci := 4) (show shp 161 = (14, 0) by decide +kernel) (by decide)) ?_
      show AW Γ l mX5_partUnits (d + 1) b 62 [vR 161, vR t1, vI y2, vI y3, vU] [] (stt (upd2 g1 161 7 ((g1 161 7) + 1))) K
      exact hF
set_option maxHeartbeats 1000000 in
theorem wpX5_partUnits_62 {Γ : Cfg} {l : Launch} {d b : Nat} {g : GG} {K : Ou → HP → Prop} {t1 : Int} (ht1 : HI t1) {y2 : Int} {y3 : Int} (hF : Ct Γ l d 0 yX2_kindAt mX2_kindAt [vR t1, vI (g 161 6), vI y3] (stt g) (bI (fun v1 g1 => (¬ wr v1 = 8 → (¬ wr v1 = 9 → (∀ g2 : GG, g2 = puc g1 163 ((g1 161 7) - 1) ((cel g1 163 ((g1 161 7) - 1)) + 1) → AW Γ l mX5_partUnits (d + 1) b 9 [vR 161, vR t1, vI (y2 + 0), vI (y3 + 1), vI v1] [] (stt g2) K)) ∧ (¬ (¬ wr v1 = 9) → (∀ g3 : GG, g3 = puc g1 163 ((g1 161 7) - 1) ((cel g1 163 ((g1 161 7) - 1)) + 1) → AW Γ l mX5_partUnits (d + 1) b 9 [vR 161, vR t1, vI (y2 + (-1)), vI (y3 + 1), vI v1] [] (stt g3) K))) ∧ (¬ (¬ wr v1 = 8) → (∀ g4 : GG, g4 = puc g1 163 ((g1 161 7) - 1) ((cel g1 163 ((g1 161 7) - 1)) + 1) → AW Γ l mX5_partUnits (d + 1) b 9 [vR 161, vR t1, vI (y2 + 1), vI (y3 + 1), vI v1] [] (stt g4) K))) K)) : AW Γ l mX5_partUnits (d + 1) b 62 [vR 161, vR t1, vI y2, vI y3, vU] [] (stt g) K := by
  refine aw_aload_n (k' := 1) (by decide +kernel) rfl ?_
  refine aw_aload_n (k' := 0) (by decide +kernel) rfl ?_
  refine gfX5_31 rfl (by decide +kernel) (OB.at (ci := 4) (show shp 161 = (14, 0) by decide +kernel) (by decide)) ?_
  refine aw_iload_n (k' := 3) (by decide +kernel) rfl ?_
  refine aw_callV (y := yX2_kindAt) (M2 := mX2_kindAt) (as := [vI (g 161 6), vI y3]) (S := []) (t := t1) (d2 := d) (b2 := 0) (b3 := b) cwX2_kindAt mlX5_62 imX2_kindAt seX2_kindAt (by decide +kernel) rfl (ci := 2) rfl (OB.at ht1.ob (by decide)) (Nat.le_refl _) (Nat.le_of_eq (Nat.zero_add _)) rfl rfl (by simp [oneSlot]) (Nat.le_of_ble_eq_true rfl) (Ct.mono hF ?_)
  rintro o h' (⟨v1, g1, rfl, rfl, hG⟩ | ⟨E, g, rfl, rfl, hG⟩)
  · show AW Γ l mX5_partUnits (d + 1) b 71 [vR 161, vR t1, vI y2, vI y3, vU] [vI v1] (stt g1) K
    refine aw_istore (i := 4) (by decide +kernel) (by decide) ?_
    show AW Γ l mX5_partUnits (d + 1) b 73 [vR 161, vR t1, vI y2, vI y3, vI v1] [] (stt g1) K
    refine aw_iload_n (k' := 2) (by decide +kernel) rfl ?_
    refine aw_iload (i := 4) (by decide +kernel) rfl ?_
    refine aw_bipush (n := 8) (by decide +kernel) (by decide +kernel) ?_
    refine ax_icmp_ne (off := 7) (tgt := 85) (x' := wr v1) (y' := 8) (by decide +kernel) (by decide) rfl (by decide +kernel) (fun hc => ?_) (fun hc => ?_)
    · have hG := hG.1 hc
      refine aw_iload (i := 4) (by decide +kernel) rfl ?_
      refine aw_bipush (n := 9) (by decide +kernel) (by decide +kernel) ?_
      refine ax_icmp_ne (off := 7) (tgt := 96) (x' := wr v1) (y' := 9) (by decide +kernel) (by decide) rfl (by decide +kernel) (fun hc => ?_) (fun hc => ?_)
      · have hG := hG.1 hc
        refine aw_iconst (n := 0) (by decide +kernel) ?_
        refine aw_iadd (by decide +kernel) ?_
        refine aw_istore_n (k' := 2) (by decide +kernel) (by decide) ?_
        show AW Γ l mX5_partUnits (d + 1) b 99 [vR 161, vR t1, vI (y2 + 0), vI y3, vI v1] [] (stt g1) K
        refine aw_aload_n (k' := 0) (by decide +kernel) rfl ?_
        refine gfX5_19 rfl (by decide +kernel) (OB.at (ci := 4) (show shp 161 = (14, 0) by decide +kernel) (by decide)) ?_
        refine AW.topR (show RC 161 2 = 163 by decide +kernel) ?_
        refine aw_aload_n (k' := 0) (by decide +kernel) rfl ?_
        refine gfX5_35 rfl (by decide +kernel) (OB.at (ci := 4) (show shp 161 = (14, 0) by decide +kernel) (by decide)) ?_
        refine aw_iconst (n := 1) (by decide +kernel) ?_
        refine aw_isub (by decide +kernel) ?_
        refine aw_aload_n (k' := 0) (by decide +kernel) rfl ?_
        refine gfX5_19 rfl (by decide +kernel) (OB.at (ci := 4) (show shp 161 = (14, 0) by decide +kernel) (by decide)) ?_
        refine AW.topR (show RC 161 2 = 163 by decide +kernel) ?_
        refine aw_aload_n (k' := 0) (by decide +kernel) rfl ?_
        refine gfX5_35 rfl (by decide +kernel) (OB.at (ci := 4) (show shp 161 = (14, 0) by decide +kernel) (by decide)) ?_
        refine aw_iconst (n := 1) (by decide +kernel) ?_
        refine aw_isub (by decide +kernel) ?_
        refine aw_callSN (host := "HalfOaths") (y := yX11_cell) (M2 := mX11_cell) (as := [vR 163, vI ((g1 161 7) - 1)]) (S := [vI ((g1 161 7) - 1), vR 163]) (d2 := d) (b2 := 0) (b3 := b) cwX11_cell mlX5_54 stX11_cell (by decide +kernel) rfl (Nat.le_refl _) (Nat.le_of_eq (Nat.zero_add _)) rfl rfl (by simp [oneSlot]) (Nat.le_of_ble_eq_true rfl) (c_cell (show (shp 163).1 = 0 by decide +kernel) ?_)
        show AW Γ l mX5_partUnits (d + 1) b 122 [vR 161, vR t1, vI (y2 + 0), vI y3, vI v1] [vI (cel g1 163 ((g1 161 7) - 1)), vI ((g1 161 7) - 1), vR 163] (stt g1) K
        refine aw_iconst (n := 1) (by decide +kernel) ?_
        refine aw_iadd (by decide +kernel) ?_
        refine aw_callSN (host := "HalfOaths") (y := yX11_put) (M2 := mX11_put) (as := [vR 163, vI ((g1 161 7) - 1), vI ((cel g1 163 ((g1 161 7) - 1)) + 1)]) (S := []) (d2 := d) (b2 := 0) (b3 := b) cwX11_put mlX5_58 stX11_put (by decide +kernel) rfl (Nat.le_refl _) (Nat.le_of_eq (Nat.zero_add _)) rfl rfl (by simp [oneSlot]) (Nat.le_of_ble_eq_true rfl) (c_put (show (shp 163).1 = 0 by decide +kernel) ?_)
        show AW Γ l mX5_partUnits (d + 1) b 127 [vR 161, vR t1, vI (y2 + 0), vI y3, vI v1] [] (stt (puc g1 163 ((g1 161 7) - 1) ((cel g1 163 ((g1 161 7) - 1)) + 1))) K
        show AW Γ l mX5_partUnits (d + 1) b 127 [vR 161, vR t1, vI (y2 + 0), vI y3, vI v1] [] (stt (puc g1 163 ((g1 161 7) - 1) ((cel g1 163 ((g1 161 7) - 1)) + 1))) K
        generalize eg2 : puc g1 163 ((g1 161 7) - 1) ((cel g1 163 ((g1 161 7) - 1)) + 1) = g2
        replace hG := hG g2 eg2.symm
        refine aw_iinc (i := 3) (n := 1) (by decide +kernel) rfl (by decide) ?_
        show AW Γ l mX5_partUnits (d + 1) b 130 [vR 161, vR t1, vI (y2 + 0), vI (y3 + 1), vI v1] [] (stt g2) K
        refine aw_goto (off := -121) (tgt := 9) (by decide +kernel) (by decide) ?_
        exact hG
      · have hG := hG.2 hc
        refine aw_iconst (n := -1) (by decide +kernel) ?_
        refine aw_goto (off := 4) (tgt := 97) (by decide +kernel) (by decide) ?_
        refine aw_iadd (by decide +kernel) ?_
        refine aw_istore_n (k' := 2) (by decide +kernel) (by decide) ?_
        show AW Γ l mX5_partUnits (d + 1) b 99 [vR 161, vR t1, vI (y2 + (-1)), vI y3, vI v1] [] (stt g1) K
        refine aw_aload_n (k' := 0) (by decide +kernel) rfl ?_
        refine gfX5_19 rfl (by decide +kernel) (OB.at (ci := 4) (show shp 161 = (14, 0) by decide +kernel) (by decide)) ?_
        refine AW.topR (show RC 161 2 = 163 by decide +kernel) ?_
        refine aw_aload_n (k' := 0) (by decide +kernel) rfl ?_
        refine gfX5_35 rfl (by decide +kernel) (OB.at (ci := 4) (show shp 161 = (14, 0) by decide +kernel) (by decide)) ?_
        refine aw_iconst (n := 1) (by decide +kernel) ?_
        refine aw_isub (by decide +kernel) ?_
        refine aw_aload_n (k' := 0) (by decide +kernel) rfl ?_
        refine gfX5_19 rfl (by decide +kernel) (OB.at (ci := 4) (show shp 161 = (14, 0) by decide +kernel) (by decide)) ?_
        refine AW.topR (show RC 161 2 = 163 by decide +kernel) ?_
        refine aw_aload_n (k' := 0) (by decide +kernel) rfl ?_
        refine gfX5_35 rfl (by decide +kernel) (OB.at (ci := 4) (show shp 161 = (14, 0) by decide +kernel) (by decide)) ?_
        refine aw_iconst (n := 1) (by decide +kernel) ?_
        refine aw_isub (by decide +kernel) ?_
        refine aw_callSN (host := "HalfOaths") (y := yX11_cell) (M2 := mX11_cell) (as := [vR 163, vI ((g1 161 7) - 1)]) (S := [vI ((g1 161 7) - 1), vR 163]) (d2 := d) (b2 := 0) (b3 := b) cwX11_cell mlX5_54 stX11_cell (by decide +kernel) rfl (Nat.le_refl _) (Nat.le_of_eq (Nat.zero_add _)) rfl rfl (by simp [oneSlot]) (Nat.le_of_ble_eq_true rfl) (c_cell (show (shp 163).1 = 0 by decide +kernel) ?_)
        show AW Γ l mX5_partUnits (d + 1) b 122 [vR 161, vR t1, vI (y2 + (-1)), vI y3, vI v1] [vI (cel g1 163 ((g1 161 7) - 1)), vI ((g1 161 7) - 1), vR 163] (stt g1) K
        refine aw_iconst (n := 1) (by decide +kernel) ?_
        refine aw_iadd (by decide +kernel) ?_
        refine aw_callSN (host := "HalfOaths") (y := yX11_put) (M2 := mX11_put) (as := [vR 163, vI ((g1 161 7) - 1), vI ((cel g1 163 ((g1 161 7) - 1)) + 1)]) (S := []) (d2 := d) (b2 := 0) (b3 := b) cwX11_put mlX5_58 stX11_put (by decide +kernel) rfl (Nat.le_refl _) (Nat.le_of_eq (Nat.zero_add _)) rfl rfl (by simp [oneSlot]) (Nat.le_of_ble_eq_true rfl) (c_put (show (shp 163).1 = 0 by decide +kernel) ?_)
        show AW Γ l mX5_partUnits (d + 1) b 127 [vR 161, vR t1, vI (y2 + (-1)), vI y3, vI v1] [] (stt (puc g1 163 ((g1 161 7) - 1) ((cel g1 163 ((g1 161 7) - 1)) + 1))) K
        show AW Γ l mX5_partUnits (d + 1) b 127 [vR 161, vR t1, vI (y2 + (-1)), vI y3, vI v1] [] (stt (puc g1 163 ((g1 161 7) - 1) ((cel g1 163 ((g1 161 7) - 1)) + 1))) K
        generalize eg3 : puc g1 163 ((g1 161 7) - 1) ((cel g1 163 ((g1 161 7) - 1)) + 1) = g3
        replace hG := hG g3 eg3.symm
        refine aw_iinc (i := 3) (n := 1) (by decide +kernel) rfl (by decide) ?_
        show AW Γ l mX5_partUnits (d + 1) b 130 [vR 161, vR t1, vI (y2 + (-1)), vI (y3 + 1), vI v1] [] (stt g3) K
        refine aw_goto (off := -121) (tgt := 9) (by decide +kernel) (by decide) ?_
        exact hG
    · have hG := hG.2 hc
      refine aw_iconst (n := 1) (by decide +kernel) ?_
      refine aw_goto (off := 15) (tgt := 97) (by decide +kernel) (by decide) ?_
      refine aw_iadd (by decide +kernel) ?_
      refine aw_istore_n (k' := 2) (by decide +kernel) (by decide) ?_
      show AW Γ l mX5_partUnits (d + 1) b 99 [vR 161, vR t1, vI (y2 + 1), vI y3, vI v1] [] (stt g1) K
      refine aw_aload_n (k' := 0) (by decide +kernel) rfl ?_
      refine gfX5_19 rfl (by decide +kernel) (OB.at (ci := 4) (show shp 161 = (14, 0) by decide +kernel) (by decide)) ?_
      refine AW.topR (show RC 161 2 = 163 by decide +kernel) ?_
      refine aw_aload_n (k' := 0) (by decide +kernel) rfl ?_
      refine gfX5_35 rfl (by decide +kernel) (OB.at (ci := 4) (show shp 161 = (14, 0) by decide +kernel) (by decide)) ?_
      refine aw_iconst (n := 1) (by decide +kernel) ?_
      refine aw_isub (by decide +kernel) ?_
      refine aw_aload_n (k' := 0) (by decide +kernel) rfl ?_
      refine gfX5_19 rfl (by decide +kernel) (OB.at (ci := 4) (show shp 161 = (14, 0) by decide +kernel) (by decide)) ?_
      refine AW.topR (show RC 161 2 = 163 by decide +kernel) ?_
      refine aw_aload_n (k' := 0) (by decide +kernel) rfl ?_
      refine gfX5_35 rfl (by decide +kernel) (OB.at (ci := 4) (show shp 161 = (14, 0) by decide +kernel) (by decide)) ?_
      refine aw_iconst (n := 1) (by decide +kernel) ?_
      refine aw_isub (by decide +kernel) ?_
      refine aw_callSN (host := "HalfOaths") (y := yX11_cell) (M2 := mX11_cell) (as := [vR 163, vI ((g1 161 7) - 1)]) (S := [vI ((g1 161 7) - 1), vR 163]) (d2 := d) (b2 := 0) (b3 := b) cwX11_cell mlX5_54 stX11_cell (by decide +kernel) rfl (Nat.le_refl _) (Nat.le_of_eq (Nat.zero_add _)) rfl rfl (by simp [oneSlot]) (Nat.le_of_ble_eq_true rfl) (c_cell (show (shp 163).1 = 0 by decide +kernel) ?_)
      show AW Γ l mX5_partUnits (d + 1) b 122 [vR 161, vR t1, vI (y2 + 1), vI y3, vI v1] [vI (cel g1 163 ((g1 161 7) - 1)), vI ((g1 161 7) - 1), vR 163] (stt g1) K
      refine aw_iconst (n := 1) (by decide +kernel) ?_
      refine aw_iadd (by decide +kernel) ?_
      refine aw_callSN (host := "HalfOaths") (y := yX11_put) (M2 := mX11_put) (as := [vR 163, vI ((g1 161 7) - 1), vI ((cel g1 163 ((g1 161 7) - 1)) + 1)]) (S := []) (d2 := d) (b2 := 0) (b3 := b) cwX11_put mlX5_58 stX11_put (by decide +kernel) rfl (Nat.le_refl _) (Nat.le_of_eq (Nat.zero_add _)) rfl rfl (by simp [oneSlot]) (Nat.le_of_ble_eq_true rfl) (c_put (show (shp 163).1 = 0 by decide +kernel) ?_)
      show AW Γ l mX5_partUnits (d + 1) b 127 [vR 161, vR t1, vI (y2 + 1), vI y3, vI v1] [] (stt (puc g1 163 ((g1 161 7) - 1) ((cel g1 163 ((g1 161 7) - 1)) + 1))) K
      show AW Γ l mX5_partUnits (d + 1) b 127 [vR 161, vR t1, vI (y2 + 1), vI y3, vI v1] [] (stt (puc g1 163 ((g1 161 7) - 1) ((cel g1 163 ((g1 161 7) - 1)) + 1))) K
      generalize eg4 : puc g1 163 ((g1 161 7) - 1) ((cel g1 163 ((g1 161 7) - 1)) + 1) = g4
      replace hG := hG g4 eg4.symm
      refine aw_iinc (i := 3) (n := 1) (by decide +kernel) rfl (by decide) ?_
      show AW Γ l mX5_partUnits (d + 1) b 130 [vR 161, vR t1, vI (y2 + 1), vI (y3 + 1), vI v1] [] (stt g4) K
      refine aw_goto (off := -121) (tgt := 9) (by decide +kernel) (by decide) ?_
      exact hG
  · exact hG

set_option maxHeartbeats 1000000 in
theorem wpX5_placeFrom {Γ : Cfg} {l : Launch} {d b : Nat} {g : GG} {K : Ou → HP → Prop} {t1 : Int} (ht1 : HI t1) {x2 : Int} {x3 : Int} {x4 : Int} {x5 : Int} (hF : (wr x2 < wr (g 161 7) → AW Γ l mX5_placeFrom (d + 1) b 36 [vR 161, vR t1, vI x2, vI x3, vI x4, vI x5, vI 0, vU, vU] [] (stt g) K) ∧ (¬ (wr x2 < wr (g 161 7)) → (((0 : Int) ≤ 0 ∧ (0 : Int) ≤ 0 ∧ (0 : Int) ≤ 6) ∧ (0 : Int) + 6 ≤ 6 ∧ (0 : Int) + 6 ≤ 6) ∧ (∀ g1 : GG, g1 = cpy (upd2 g 161 8 x5) 165 166 0 0 6 → K (.inl vU) (stt g1)))) : Ct Γ l (d + 1) b yX5_placeFrom mX5_placeFrom [vR 161, vR t1, vI x2, vI x3, vI x4, vI x5] (stt g) K := by
  refine Ct.enter (L := [vR 161, vR t1, vI x2, vI x3, vI x4, vI x5, vU, vU, vU]) rfl rfl rfl (by decide +kernel) (by simp [oneSlot]) (Nat.le_of_ble_eq_true rfl) rfl ?_
  refine aw_iload_n (k' := 2) (by decide +kernel) rfl ?_
  refine aw_aload_n (k' := 0) (by decide +kernel) rfl ?_
  refine gfX5_35 rfl (by decide +kernel) (OB.at (ci := 4) (show shp 161 = (14, 0) by decide +kernel) (by decide)) ?_
  refine ax_icmp_lt (off := 28) (tgt := 33) (x' := wr x2) (y' := wr (g 161 7)) (by decide +kernel) (by decide) rfl rfl (fun hc => ?_) (fun hc => ?_)
  · have hF := hF.1 hc
    refine aw_iconst (n := 0) (by decide +kernel) ?_
    refine aw_istore (i := 6) (by decide +kernel) (by decide) ?_
    show AW Γ l mX5_placeFrom (d + 1) b 36 [vR 161, vR t1, vI x2, vI x3, vI x4, vI x5, vI 0, vU, vU] [] (stt g) K
    exact hF
  · have hF := hF.2 hc
    refine aw_aload_n (k' := 0) (by decide +kernel) rfl ?_
    refine aw_iload (i := 5) (by decide +kernel) rfl ?_
    refine pfX5_38 rfl (by decide +kernel) (OB.at (ci := 4) (show shp 161 = (14, 0) by decide +kernel) (by decide)) ?_
    show AW Γ l mX5_placeFrom (d + 1) b 14 [vR 161, vR t1, vI x2, vI x3, vI x4, vI x5, vU, vU, vU] [] (stt (upd2 g 161 8 x5)) K
    refine aw_aload_n (k' := 0) (by decide +kernel) rfl ?_
    refine gfX5_25 rfl (by decide +kernel) (OB.at (ci := 4) (show shp 161 = (14, 0) by decide +kernel) (by decide)) ?_
    refine AW.topR (show RC 161 4 = 165 by decide +kernel) ?_
    refine aw_iconst (n := 0) (by decide +kernel) ?_
    refine aw_aload_n (k' := 0) (by decide +kernel) rfl ?_
    refine gfX5_28 rfl (by decide +kernel) (OB.at (ci := 4) (show shp 161 = (14, 0) by decide +kernel) (by decide)) ?_
    refine AW.topR (show RC 161 5 = 166 by decide +kernel) ?_
    refine aw_iconst (n := 0) (by decide +kernel) ?_
    refine aw_aload_n (k' := 0) (by decide +kernel) rfl ?_
    refine gfX5_25 rfl (by decide +kernel) (OB.at (ci := 4) (show shp 161 = (14, 0) by decide +kernel) (by decide)) ?_
    refine AW.topR (show RC 161 4 = 165 by decide +kernel) ?_
    refine aw_alen (k := 0) (n := 6) (by decide +kernel) (by decide) (isA_lit (show shp 165 = (0, 6) by decide +kernel) (by decide)) ?_
    show AW Γ l mX5_placeFrom (d + 1) b 29 [vR 161, vR t1, vI x2, vI x3, vI x4, vI x5, vU, vU, vU] [vI 6, vI 0, vR 166, vI 0, vR 165] (stt (upd2 g 161 8 x5)) K
    refine aw_copy (sp' := 0) (dp' := 0) (n' := 6) (by decide +kernel) mlX5_66 cwSy_nat cwSy_st cwSy_init (isA_lit (show shp 165 = (0, 6) by decide +kernel) (by decide)) (isA_lit (show shp 166 = (0, 6) by decide +kernel) (by decide)) (by decide +kernel) (by decide +kernel) (by decide +kernel) hF.1 (by simp [oneSlot]) (Nat.le_of_ble_eq_true rfl) ?_
    replace hF := hF.2
    show AW Γ l mX5_placeFrom (d + 1) b 32 [vR 161, vR t1, vI x2, vI x3, vI x4, vI x5, vU, vU, vU] [] (stt (cpy (upd2 g 161 8 x5) 165 166 0 0 6)) K
    generalize eg1 : cpy (upd2 g 161 8 x5) 165 166 0 0 6 = g1
    replace hF := hF g1 eg1.symm
    exact aw_vret (by decide +kernel) rfl hF
set_option maxHeartbeats 1000000 in
theorem wpX5_placeFrom_36 {Γ : Cfg} {l : Launch} {d b : Nat} {g : GG} {K : Ou → HP → Prop} {t1 : Int} (ht1 : HI t1) {x2 : Int} {x3 : Int} {x4 : Int} {x5 : Int} {y6 : Int} (hF : (wr (g 161 7) ≤ wr y6 → K (.inl vU) (stt g)) ∧ (¬ (wr (g 161 7) ≤ wr y6) → (¬ wr (iAnd (iShr x3 y6) 1) = 0 → AW Γ l mX5_placeFrom (d + 1) b 36 [vR 161, vR t1, vI x2, vI x3, vI x4, vI x5, vI (y6 + 1), vU, vU] [] (stt g) K) ∧ (¬ (¬ wr (iAnd (iShr x3 y6) 1) = 0) → Ct Γ l d 0 yX5_leastOfUnit mX5_leastOfUnit [vR 161, vR t1, vI y6, vI x4] (stt g) (bI (fun v1 g1 => (wr (iMin x5 v1) ≤ wr (g1 161 8) → AW Γ l mX5_placeFrom (d + 1) b 36 [vR 161, vR t1, vI x2, vI x3, vI x4, vI x5, vI (y6 + 1), vI (cel g 163 y6), vI (iMin x5 v1)] [] (stt g1) K) ∧ (¬ (wr (iMin x5 v1) ≤ wr (g1 161 8)) → Ct Γ l d 0 yX5_placeFrom mX5_placeFrom [vR 161, vR t1, vI (x2 + 1), vI (iOr x3 (iShl 1 y6)), vI (x4 + (cel g 163 y6)), vI (iMin x5 v1)] (stt (puc g1 165 x2 y6)) (bV (fun g2 => AW Γ l mX5_placeFrom (d + 1) b 36 [vR 161, vR t1, vI x2, vI x3, vI x4, vI x5, vI (y6 + 1), vI (cel g 163 y6), vI (iMin x5 v1)] [] (stt g2) K) K))) K)))) : AW Γ l mX5_placeFrom (d + 1) b 36 [vR 161, vR t1, vI x2, vI x3, vI x4, vI x5, vI y6, vU, vU] [] (stt g) K := by
  refine aw_iload (i := 6) (by decide +kernel) rfl ?_
  refine aw_aload_n (k' := 0) (by decide +kernel) rfl ?_
  refine gfX5_35 rfl (by decide +kernel) (OB.at (ci := 4) (show shp 161 = (14, 0) by decide +kernel) (by decide)) ?_
  refine ax_icmp_ge (off := 85) (tgt := 127) (x' := wr y6) (y' := wr (g 161 7)) (by decide +kernel) (by decide) rfl rfl (fun hc => ?_) (fun hc => ?_)
  · have hF := hF.1 hc
    exact aw_vret (by decide +kernel) rfl hF
  · have hF := hF.2 hc
    refine aw_iload_n (k' := 3) (by decide +kernel) rfl ?_
    refine aw_iload (i := 6) (by decide +kernel) rfl ?_
    refine aw_ishr (by decide +kernel) ?_
    refine aw_iconst (n := 1) (by decide +kernel) ?_
    refine aw_iand (by decide +kernel) ?_
    refine ax_if_ne (off := 70) (tgt := 121) (x' := wr (iAnd (iShr x3 y6) 1)) (by decide +kernel) (by decide) rfl (fun hc => ?_) (fun hc => ?_)
    · have hF := hF.1 hc
      refine aw_iinc (i := 6) (n := 1) (by decide +kernel) rfl (by decide) ?_
      show AW Γ l mX5_placeFrom (d + 1) b 124 [vR 161, vR t1, vI x2, vI x3, vI x4, vI x5, vI (y6 + 1), vU, vU] [] (stt g) K
      refine aw_goto (off := -88) (tgt := 36) (by decide +kernel) (by decide) ?_
      exact hF
    · have hF := hF.2 hc
      refine aw_aload_n (k' := 0) (by decide +kernel) rfl ?_
      refine gfX5_19 rfl (by decide +kernel) (OB.at (ci := 4) (show shp 161 = (14, 0) by decide +kernel) (by decide)) ?_
      refine AW.topR (show RC 161 2 = 163 by decide +kernel) ?_
      refine aw_iload (i := 6) (by decide +kernel) rfl ?_
      refine aw_callSN (host := "HalfOaths") (y := yX11_cell) (M2 := mX11_cell) (as := [vR 163, vI y6]) (S := []) (d2 := d) (b2 := 0) (b3 := b) cwX11_cell mlX5_54 stX11_cell (by decide +kernel) rfl (Nat.le_refl _) (Nat.le_of_eq (Nat.zero_add _)) rfl rfl (by simp [oneSlot]) (Nat.le_of_ble_eq_true rfl) (c_cell (show (shp 163).1 = 0 by decide +kernel) ?_)
      show AW Γ l mX5_placeFrom (d + 1) b 63 [vR 161, vR t1, vI x2, vI x3, vI x4, vI x5, vI y6, vU, vU] [vI (cel g 163 y6)] (stt g) K
      refine aw_istore (i := 7) (by decide +kernel) (by decide) ?_
      show AW Γ l mX5_placeFrom (d + 1) b 65 [vR 161, vR t1, vI x2, vI x3, vI x4, vI x5, vI y6, vI (cel g 163 y6), vU] [] (stt g) K
      refine aw_iload (i := 5) (by decide +kernel) rfl ?_
      refine aw_aload_n (k' := 0) (by decide +kernel) rfl ?_
      refine aw_aload_n (k' := 1) (by decide +kernel) rfl ?_
      refine aw_iload (i := 6) (by decide +kernel) rfl ?_
      refine aw_iload (i := 4) (by decide +kernel) rfl ?_
      refine aw_callV (y := yX5_leastOfUnit) (M2 := mX5_leastOfUnit) (as := [vR t1, vI y6, vI x4]) (S := [vI x5]) (t := 161) (d2 := d) (b2 := 0) (b3 := b) cwX5_leastOfUnit mlX5_72 imX5_leastOfUnit seX5_leastOfUnit (by decide +kernel) rfl (ci := 4) rfl (OB.at (ci := 4) (show shp 161 = (14, 0) by decide +kernel) (by decide)) (Nat.le_refl _) (Nat.le_of_eq (Nat.zero_add _)) rfl rfl (by simp [oneSlot]) (Nat.le_of_ble_eq_true rfl) (Ct.mono hF ?_)
      rintro o h' (⟨v1, g1, rfl, rfl, hG⟩ | ⟨E, g, rfl, rfl, hG⟩)
      · show AW Γ l mX5_placeFrom (d + 1) b 76 [vR 161, vR t1, vI x2, vI x3, vI x4, vI x5, vI y6, vI (cel g 163 y6), vU] [vI v1, vI x5] (stt g1) K
        refine aw_mmin (by decide +kernel) mlX5_76 stJ9_min_7cf53 cwM_init cwM_min (by simp [oneSlot]) (Nat.le_of_ble_eq_true rfl) ?_
        refine aw_istore (i := 8) (by decide +kernel) (by decide) ?_
        show AW Γ l mX5_placeFrom (d + 1) b 81 [vR 161, vR t1, vI x2, vI x3, vI x4, vI x5, vI y6, vI (cel g 163 y6), vI (iMin x5 v1)] [] (stt g1) K
        refine aw_iload (i := 8) (by decide +kernel) rfl ?_
        refine aw_aload_n (k' := 0) (by decide +kernel) rfl ?_
        refine gfX5_38 rfl (by decide +kernel) (OB.at (ci := 4) (show shp 161 = (14, 0) by decide +kernel) (by decide)) ?_
        refine ax_icmp_le (off := 34) (tgt := 121) (x' := wr (iMin x5 v1)) (y' := wr (g1 161 8)) (by decide +kernel) (by decide) rfl rfl (fun hc => ?_) (fun hc => ?_)
        · have hG := hG.1 hc
          refine aw_iinc (i := 6) (n := 1) (by decide +kernel) rfl (by decide) ?_
          show AW Γ l mX5_placeFrom (d + 1) b 124 [vR 161, vR t1, vI x2, vI x3, vI x4, vI x5, vI (y6 + 1), vI (cel g 163 y6), vI (iMin x5 v1)] [] (stt g1) K
          refine aw_goto (off := -88) (tgt := 36) (by decide +kernel) (by decide) ?_
          exact hG
        · have hG := hG.2 hc
          refine aw_aload_n (k' := 0) (by decide +kernel) rfl ?_
          refine gfX5_25 rfl (by decide +kernel) (OB.at (ci := 4) (show shp 161 = (14, 0) by decide +kernel) (by decide)) ?_
          refine AW.topR (show RC 161 4 = 165 by decide +kernel) ?_
          refine aw_iload_n (k' := 2) (by decide +kernel) rfl ?_
          refine aw_iload (i := 6) (by decide +kernel) rfl ?_
          refine aw_callSN (host := "HalfOaths") (y := yX11_put) (M2 := mX11_put) (as := [vR 165, vI x2, vI y6]) (S := []) (d2 := d) (b2 := 0) (b3 := b) cwX11_put mlX5_58 stX11_put (by decide +kernel) rfl (Nat.le_refl _) (Nat.le_of_eq (Nat.zero_add _)) rfl rfl (by simp [oneSlot]) (Nat.le_of_ble_eq_true rfl) (c_put (show (shp 165).1 = 0 by decide +kernel) ?_)
          show AW Γ l mX5_placeFrom (d + 1) b 100 [vR 161, vR t1, vI x2, vI x3, vI x4, vI x5, vI y6, vI (cel g 163 y6), vI (iMin x5 v1)] [] (stt (puc g1 165 x2 y6)) K
          refine aw_aload_n (k' := 0) (by decide +kernel) rfl ?_
          refine aw_aload_n (k' := 1) (by decide +kernel) rfl ?_
          refine aw_iload_n (k' := 2) (by decide +kernel) rfl ?_
          refine aw_iconst (n := 1) (by decide +kernel) ?_
          refine aw_iadd (by decide +kernel) ?_
          refine aw_iload_n (k' := 3) (by decide +kernel) rfl ?_
          refine aw_iconst (n := 1) (by decide +kernel) ?_
          refine aw_iload (i := 6) (by decide +kernel) rfl ?_
          refine aw_ishl (by decide +kernel) ?_
          refine aw_ior (by decide +kernel) ?_
          refine aw_iload (i := 4) (by decide +kernel) rfl ?_
          refine aw_iload (i := 7) (by decide +kernel) rfl ?_
          refine aw_iadd (by decide +kernel) ?_
          refine aw_iload (i := 8) (by decide +kernel) rfl ?_
          refine aw_callS (y := yX5_placeFrom) (M2 := mX5_placeFrom) (as := [vR 161, vR t1, vI (x2 + 1), vI (iOr x3 (iShl 1 y6)), vI (x4 + (cel g 163 y6)), vI (iMin x5 v1)]) (S := []) (d2 := d) (b2 := 0) (b3 := b) cwX5_placeFrom mlX5_45 stX5_placeFrom (by decide +kernel) rfl (Nat.le_refl _) (Nat.le_of_eq (Nat.zero_add _)) rfl rfl (by simp [oneSlot]) (Nat.le_of_ble_eq_true rfl) (Ct.mono hG ?_)
          rintro o h' (⟨g2, rfl, rfl, hG⟩ | ⟨E, g, rfl, rfl, hG⟩)
          · show AW Γ l mX5_placeFrom (d + 1) b 121 [vR 161, vR t1, vI x2, vI x3, vI x4, vI x5, vI y6, vI (cel g 163 y6), vI (iMin x5 v1)] [] (stt g2) K
            refine aw_iinc (i := 6) (n := 1) (by decide +kernel) rfl (by decide) ?_
            show AW Γ l mX5_placeFrom (d + 1) b 124 [vR 161, vR t1, vI x2, vI x3, vI x4, vI x5, vI (y6 + 1), vI (cel g 163 y6), vI (iMin x5 v1)] [] (stt g2) K
            refine aw_goto (off := -88) (tgt := 36) (by decide +kernel) (by decide) ?_
            exact hG
          · exact hG
      · exact hG

set_option maxHeartbeats 1000000 in
theorem wpX5_leastOfUnit {Γ : Cfg} {l : Launch} {d b : Nat} {g : GG} {K : Ou → HP → Prop} {t1 : Int} (ht1 : HI t1) {x2 : Int} {x3 : Int} (hF : AW Γ l mX5_leastOfUnit (d + 2) b 8 [vR 161, vR t1, vI x2, vI x3, vI 9999, vI 0, vU] [] (stt g) K) : Ct Γ l (d + 2) b yX5_leastOfUnit mX5_leastOfUnit [vR 161, vR t1, vI x2, vI x3] (stt g) K := by
  refine Ct.enter (L := [vR 161, vR t1, vI x2, vI x3, vU, vU, vU]) rfl rfl rfl (by decide +kernel) (by simp [oneSlot]) (Nat.le_of_ble_eq_true rfl) rfl ?_
  refine aw_sipush (n := 9999) (by decide +kernel) (by decide +kernel) ?_
  refine aw_istore (i := 4) (by decide +kernel) (by decide) ?_
  show AW Γ l mX5_leastOfUnit (d + 2) b 5 [vR 161, vR t1, vI x2, vI x3, vI 9999, vU, vU] [] (stt g) K
  refine aw_iconst (n := 0) (by decide +kernel) ?_
  refine aw_istore (i := 5) (by decide +kernel) (by decide) ?_
  show AW Γ l mX5_leastOfUnit (d + 2) b 8 [vR 161, vR t1, vI x2, vI x3, vI 9999, vI 0, vU] [] (stt g) K
  exact hF
set_option maxHeartbeats 1000000 in
theorem wpX5_leastOfUnit_8 {Γ : Cfg} {l : Launch} {d b : Nat} {g : GG} {K : Ou → HP → Prop} {t1 : Int} (ht1 : HI t1) {x2 : Int} {x3 : Int} {y4 : Int} {y5 : Int} (hF : (wr (cel g 163 x2) ≤ wr y5 → K (.inl (vI y4)) (stt g)) ∧ (¬ (wr (cel g 163 x2) ≤ wr y5) → (∀ g1 : GG, g1 = puc g 164 (((x3 + y5) + 1) - 1) (cel g (t1 + 1 + 0) ((g 161 6) * 12 + ((cel g 162 x2) + y5))) → Ct Γ l (d + 1) 0 yX7_readWords mX7_readWords [vR 153, vR 164, vI 0, vI ((x3 + y5) + 1), vR (t1 + 1 + 6)] (stt g1) (bV (fun g2 => (¬ wr ((x3 + y5) + 1) = wr (cel g2 (t1 + 1 + 1) (g2 161 6)) → Ct Γ l (d + 1) 0 yX7_judge mX7_judge [vR 153, vI (g2 161 6), vI ((x3 + y5) + 1), vI 0] (stt g2) (bI (fun v1 g3 => AW Γ l mX5_leastOfUnit (d + 2) b 8 [vR 161, vR t1, vI x2, vI x3, vI (iMin y4 v1), vI (y5 + 1), vI ((x3 + y5) + 1)] [] (stt g3) K) K)) ∧ (¬ (¬ wr ((x3 + y5) + 1) = wr (cel g2 (t1 + 1 + 1) (g2 161 6))) → Ct Γ l (d + 1) 0 yX7_judge mX7_judge [vR 153, vI (g2 161 6), vI ((x3 + y5) + 1), vI 1] (stt g2) (bI (fun v2 g4 => AW Γ l mX5_leastOfUnit (d + 2) b 8 [vR 161, vR t1, vI x2, vI x3, vI (iMin y4 v2), vI (y5 + 1), vI ((x3 + y5) + 1)] [] (stt g4) K) K))) K)))) : AW Γ l mX5_leastOfUnit (d + 2) b 8 [vR 161, vR t1, vI x2, vI x3, vI y4, vI y5, vU] [] (stt g) K := by
  refine aw_iload (i := 5) (by decide +kernel) rfl ?_
  refine aw_aload_n (k' := 0) (by decide +kernel) rfl ?_
  refine gfX5_19 rfl (by decide +kernel) (OB.at (ci := 4) (show shp 161 = (14, 0) by decide +kernel) (by decide)) ?_
  refine AW.topR (show RC 161 2 = 163 by decide +kernel) ?_
  refine aw_iload_n (k' := 2) (by decide +kernel) rfl ?_
  refine aw_callSN (host := "HalfOaths") (y := yX11_cell) (M2 := mX11_cell) (as := [vR 163, vI x2]) (S := [vI y5]) (d2 := (d + 1)) (b2 := 0) (b3 := b) cwX11_cell mlX5_54 stX11_cell (by decide +kernel) rfl (Nat.le_refl _) (Nat.le_of_eq (Nat.zero_add _)) rfl rfl (by simp [oneSlot]) (Nat.le_of_ble_eq_true rfl) (c_cell (show (shp 163).1 = 0 by decide +kernel) ?_)
  show AW Γ l mX5_leastOfUnit (d + 2) b 18 [vR 161, vR t1, vI x2, vI x3, vI y4, vI y5, vU] [vI (cel g 163 x2), vI y5] (stt g) K
  refine ax_icmp_ge (off := 106) (tgt := 124) (x' := wr y5) (y' := wr (cel g 163 x2)) (by decide +kernel) (by decide) rfl rfl (fun hc => ?_) (fun hc => ?_)
  · have hF := hF.1 hc
    refine aw_iload (i := 4) (by decide +kernel) rfl ?_
    exact aw_iret (by decide +kernel) rfl hF
  · have hF := hF.2 hc
    refine aw_iload_n (k' := 3) (by decide +kernel) rfl ?_
    refine aw_iload (i := 5) (by decide +kernel) rfl ?_
    refine aw_iadd (by decide +kernel) ?_
    refine aw_iconst (n := 1) (by decide +kernel) ?_
    refine aw_iadd (by decide +kernel) ?_
    refine aw_istore (i := 6) (by decide +kernel) (by decide) ?_
    show AW Γ l mX5_leastOfUnit (d + 2) b 29 [vR 161, vR t1, vI x2, vI x3, vI y4, vI y5, vI ((x3 + y5) + 1)] [] (stt g) K
    refine aw_aload_n (k' := 0) (by decide +kernel) rfl ?_
    refine gfX5_22 rfl (by decide +kernel) (OB.at (ci := 4) (show shp 161 = (14, 0) by decide +kernel) (by decide)) ?_
    refine AW.topR (show RC 161 3 = 164 by decide +kernel) ?_
    refine aw_iload (i := 6) (by decide +kernel) rfl ?_
    refine aw_iconst (n := 1) (by decide +kernel) ?_
    refine aw_isub (by decide +kernel) ?_
    refine aw_aload_n (k' := 1) (by decide +kernel) rfl ?_
    refine aw_aload_n (k' := 0) (by decide +kernel) rfl ?_
    refine gfX5_31 rfl (by decide +kernel) (OB.at (ci := 4) (show shp 161 = (14, 0) by decide +kernel) (by decide)) ?_
    refine aw_aload_n (k' := 0) (by decide +kernel) rfl ?_
    refine gfX5_15 rfl (by decide +kernel) (OB.at (ci := 4) (show shp 161 = (14, 0) by decide +kernel) (by decide)) ?_
    refine AW.topR (show RC 161 1 = 162 by decide +kernel) ?_
    refine aw_iload_n (k' := 2) (by decide +kernel) rfl ?_
    refine aw_callSN (host := "HalfOaths") (y := yX11_cell) (M2 := mX11_cell) (as := [vR 162, vI x2]) (S := [vI (g 161 6), vR t1, vI (((x3 + y5) + 1) - 1), vR 164]) (d2 := (d + 1)) (b2 := 0) (b3 := b) cwX11_cell mlX5_54 stX11_cell (by decide +kernel) rfl (Nat.le_refl _) (Nat.le_of_eq (Nat.zero_add _)) rfl rfl (by simp [oneSlot]) (Nat.le_of_ble_eq_true rfl) (c_cell (show (shp 162).1 = 0 by decide +kernel) ?_)
    show AW Γ l mX5_leastOfUnit (d + 2) b 50 [vR 161, vR t1, vI x2, vI x3, vI y4, vI y5, vI ((x3 + y5) + 1)] [vI (cel g 162 x2), vI (g 161 6), vR t1, vI (((x3 + y5) + 1) - 1), vR 164] (stt g) K
    refine aw_iload (i := 5) (by decide +kernel) rfl ?_
    refine aw_iadd (by decide +kernel) ?_
    refine aw_callV (y := yX2_wordAt) (M2 := mX2_wordAt) (as := [vI (g 161 6), vI ((cel g 162 x2) + y5)]) (S := [vI (((x3 + y5) + 1) - 1), vR 164]) (t := t1) (d2 := (d + 1)) (b2 := 0) (b3 := b) cwX2_wordAt mlX5_81 imX2_wordAt seX2_wordAt (by decide +kernel) rfl (ci := 2) rfl (OB.at ht1.ob (by decide)) (Nat.le_refl _) (Nat.le_of_eq (Nat.zero_add _)) rfl rfl (by simp [oneSlot]) (Nat.le_of_ble_eq_true rfl) (c_wordAt ht1 ?_)
    show AW Γ l mX5_leastOfUnit (d + 2) b 56 [vR 161, vR t1, vI x2, vI x3, vI y4, vI y5, vI ((x3 + y5) + 1)] [vI (cel g (t1 + 1 + 0) ((g 161 6) * 12 + ((cel g 162 x2) + y5))), vI (((x3 + y5) + 1) - 1), vR 164] (stt g) K
    refine aw_callSN (host := "HalfOaths") (y := yX11_put) (M2 := mX11_put) (as := [vR 164, vI (((x3 + y5) + 1) - 1), vI (cel g (t1 + 1 + 0) ((g 161 6) * 12 + ((cel g 162 x2) + y5)))]) (S := []) (d2 := (d + 1)) (b2 := 0) (b3 := b) cwX11_put mlX5_58 stX11_put (by decide +kernel) rfl (Nat.le_refl _) (Nat.le_of_eq (Nat.zero_add _)) rfl rfl (by simp [oneSlot]) (Nat.le_of_ble_eq_true rfl) (c_put (show (shp 164).1 = 0 by decide +kernel) ?_)
    show AW Γ l mX5_leastOfUnit (d + 2) b 59 [vR 161, vR t1, vI x2, vI x3, vI y4, vI y5, vI ((x3 + y5) + 1)] [] (stt (puc g 164 (((x3 + y5) + 1) - 1) (cel g (t1 + 1 + 0) ((g 161 6) * 12 + ((cel g 162 x2) + y5))))) K
    show AW Γ l mX5_leastOfUnit (d + 2) b 59 [vR 161, vR t1, vI x2, vI x3, vI y4, vI y5, vI ((x3 + y5) + 1)] [] (stt (puc g 164 (((x3 + y5) + 1) - 1) (cel g (t1 + 1 + 0) ((g 161 6) * 12 + ((cel g 162 x2) + y5))))) K
    generalize eg1 : puc g 164 (((x3 + y5) + 1) - 1) (cel g (t1 + 1 + 0) ((g 161 6) * 12 + ((cel g 162 x2) + y5))) = g1
    replace hF := hF g1 eg1.symm
    refine aw_aload_n (k' := 0) (by decide +kernel) rfl ?_
    refine gfX5_9 rfl (by decide +kernel) (OB.at (ci := 4) (show shp 161 = (14, 0) by decide +kernel) (by decide)) ?_
    refine AW.topR (show RC 161 0 = 153 by decide +kernel) ?_
    refine aw_aload_n (k' := 0) (by decide +kernel) rfl ?_
    refine gfX5_22 rfl (by decide +kernel) (OB.at (ci := 4) (show shp 161 = (14, 0) by decide +kernel) (by decide)) ?_
    refine AW.topR (show RC 161 3 = 164 by decide +kernel) ?_
    refine aw_iconst (n := 0) (by decide +kernel) ?_
    refine aw_iload (i := 6) (by decide +kernel) rfl ?_
    refine aw_aload_n (k' := 1) (by decide +kernel) rfl ?_
    refine gfX5_84 rfl (by decide +kernel) (OB.at ht1.ob (by decide)) ?_
    refine AW.topR (ht1.r6) ?_
    refine aw_callV (y := yX7_readWords) (M2 := mX7_readWords) (as := [vR 164, vI 0, vI ((x3 + y5) + 1), vR (t1 + 1 + 6)]) (S := []) (t := 153) (d2 := (d + 1)) (b2 := 0) (b3 := b) cwX7_readWords mlX5_87 imX7_readWords seX7_readWords (by decide +kernel) rfl (ci := 6) rfl (OB.at (ci := 6) (show shp 153 = (16, 0) by decide +kernel) (by decide)) (Nat.le_refl _) (Nat.le_of_eq (Nat.zero_add _)) rfl rfl (by simp [oneSlot]) (Nat.le_of_ble_eq_true rfl) (Ct.mono hF ?_)
    rintro o h' (⟨g2, rfl, rfl, hG⟩ | ⟨E, g, rfl, rfl, hG⟩)
    · show AW Γ l mX5_leastOfUnit (d + 2) b 77 [vR 161, vR t1, vI x2, vI x3, vI y4, vI y5, vI ((x3 + y5) + 1)] [] (stt g2) K
      refine aw_iload (i := 4) (by decide +kernel) rfl ?_
      refine aw_aload_n (k' := 0) (by decide +kernel) rfl ?_
      refine gfX5_9 rfl (by decide +kernel) (OB.at (ci := 4) (show shp 161 = (14, 0) by decide +kernel) (by decide)) ?_
      refine AW.topR (show RC 161 0 = 153 by decide +kernel) ?_
      refine aw_aload_n (k' := 0) (by decide +kernel) rfl ?_
      refine gfX5_31 rfl (by decide +kernel) (OB.at (ci := 4) (show shp 161 = (14, 0) by decide +kernel) (by decide)) ?_
      refine aw_iload (i := 6) (by decide +kernel) rfl ?_
      refine aw_iload (i := 6) (by decide +kernel) rfl ?_
      refine aw_aload_n (k' := 1) (by decide +kernel) rfl ?_
      refine gfX5_49 rfl (by decide +kernel) (OB.at ht1.ob (by decide)) ?_
      refine AW.topR (ht1.r1) ?_
      refine aw_aload_n (k' := 0) (by decide +kernel) rfl ?_
      refine gfX5_31 rfl (by decide +kernel) (OB.at (ci := 4) (show shp 161 = (14, 0) by decide +kernel) (by decide)) ?_
      refine aw_callSN (host := "HalfOaths") (y := yX11_cell) (M2 := mX11_cell) (as := [vR (t1 + 1 + 1), vI (g2 161 6)]) (S := [vI ((x3 + y5) + 1), vI ((x3 + y5) + 1), vI (g2 161 6), vR 153, vI y4]) (d2 := (d + 1)) (b2 := 0) (b3 := b) cwX11_cell mlX5_54 stX11_cell (by decide +kernel) rfl (Nat.le_refl _) (Nat.le_of_eq (Nat.zero_add _)) rfl rfl (by simp [oneSlot]) (Nat.le_of_ble_eq_true rfl) (c_cell (ht1.a1) ?_)
      show AW Γ l mX5_leastOfUnit (d + 2) b 102 [vR 161, vR t1, vI x2, vI x3, vI y4, vI y5, vI ((x3 + y5) + 1)] [vI (cel g2 (t1 + 1 + 1) (g2 161 6)), vI ((x3 + y5) + 1), vI ((x3 + y5) + 1), vI (g2 161 6), vR 153, vI y4] (stt g2) K
      refine ax_icmp_ne (off := 7) (tgt := 109) (x' := wr ((x3 + y5) + 1)) (y' := wr (cel g2 (t1 + 1 + 1) (g2 161 6))) (by decide +kernel) (by decide) rfl rfl (fun hc => ?_) (fun hc => ?_)
      · have hG := hG.1 hc
        refine aw_iconst (n := 0) (by decide +kernel) ?_
        refine aw_callV (y := yX7_judge) (M2 := mX7_judge) (as := [vI (g2 161 6), vI ((x3 + y5) + 1), vI 0]) (S := [vI y4]) (t := 153) (d2 := (d + 1)) (b2 := 0) (b3 := b) cwX7_judge mlX5_93 imX7_judge seX7_judge (by decide +kernel) rfl (ci := 6) rfl (OB.at (ci := 6) (show shp 153 = (16, 0) by decide +kernel) (by decide)) (Nat.le_refl _) (Nat.le_of_eq (Nat.zero_add _)) rfl rfl (by simp [oneSlot]) (Nat.le_of_ble_eq_true rfl) (Ct.mono hG ?_)
        rintro o h' (⟨v1, g3, rfl, rfl, hG⟩ | ⟨E, g, rfl, rfl, hG⟩)
        · show AW Γ l mX5_leastOfUnit (d + 2) b 113 [vR 161, vR t1, vI x2, vI x3, vI y4, vI y5, vI ((x3 + y5) + 1)] [vI v1, vI y4] (stt g3) K
          refine aw_mmin (by decide +kernel) mlX5_76 stJ9_min_7cf53 cwM_init cwM_min (by simp [oneSlot]) (Nat.le_of_ble_eq_true rfl) ?_
          refine aw_istore (i := 4) (by decide +kernel) (by decide) ?_
          show AW Γ l mX5_leastOfUnit (d + 2) b 118 [vR 161, vR t1, vI x2, vI x3, vI (iMin y4 v1), vI y5, vI ((x3 + y5) + 1)] [] (stt g3) K
          refine aw_iinc (i := 5) (n := 1) (by decide +kernel) rfl (by decide) ?_
          show AW Γ l mX5_leastOfUnit (d + 2) b 121 [vR 161, vR t1, vI x2, vI x3, vI (iMin y4 v1), vI (y5 + 1), vI ((x3 + y5) + 1)] [] (stt g3) K
          refine aw_goto (off := -113) (tgt := 8) (by decide +kernel) (by decide) ?_
          exact hG
        · exact hG
      · have hG := hG.2 hc
        refine aw_iconst (n := 1) (by decide +kernel) ?_
        refine aw_goto (off := 4) (tgt := 110) (by decide +kernel) (by decide) ?_
        refine aw_callV (y := yX7_judge) (M2 := mX7_judge) (as := [vI (g2 161 6), vI ((x3 + y5) + 1), vI 1]) (S := [vI y4]) (t := 153) (d2 := (d + 1)) (b2 := 0) (b3 := b) cwX7_judge mlX5_93 imX7_judge seX7_judge (by decide +kernel) rfl (ci := 6) rfl (OB.at (ci := 6) (show shp 153 = (16, 0) by decide +kernel) (by decide)) (Nat.le_refl _) (Nat.le_of_eq (Nat.zero_add _)) rfl rfl (by simp [oneSlot]) (Nat.le_of_ble_eq_true rfl) (Ct.mono hG ?_)
        rintro o h' (⟨v2, g4, rfl, rfl, hG⟩ | ⟨E, g, rfl, rfl, hG⟩)
        · show AW Γ l mX5_leastOfUnit (d + 2) b 113 [vR 161, vR t1, vI x2, vI x3, vI y4, vI y5, vI ((x3 + y5) + 1)] [vI v2, vI y4] (stt g4) K
          refine aw_mmin (by decide +kernel) mlX5_76 stJ9_min_7cf53 cwM_init cwM_min (by simp [oneSlot]) (Nat.le_of_ble_eq_true rfl) ?_
          refine aw_istore (i := 4) (by decide +kernel) (by decide) ?_
          show AW Γ l mX5_leastOfUnit (d + 2) b 118 [vR 161, vR t1, vI x2, vI x3, vI (iMin y4 v2), vI y5, vI ((x3 + y5) + 1)] [] (stt g4) K
          refine aw_iinc (i := 5) (n := 1) (by decide +kernel) rfl (by decide) ?_
          show AW Γ l mX5_leastOfUnit (d + 2) b 121 [vR 161, vR t1, vI x2, vI x3, vI (iMin y4 v2), vI (y5 + 1), vI ((x3 + y5) + 1)] [] (stt g4) K
          refine aw_goto (off := -113) (tgt := 8) (by decide +kernel) (by decide) ?_
          exact hG
        · exact hG
    · exact hG

set_option maxHeartbeats 1000000 in
theorem wpX6_find {Γ : Cfg} {l : Launch} {d b : Nat} {g : GG} {K : Ou → HP → Prop} {t1 : Int} (ht1 : HI t1) (hF : AW Γ l mX6_find (d + 1) b 2 [vR 167, vR t1, vI 0] [] (stt g) K) : Ct Γ l (d + 1) b yX6_find mX6_find [vR 167, vR t1] (stt g) K := by
  refine Ct.enter (L := [vR 167, vR t1, vU]) rfl rfl rfl (by decide +kernel) (by simp [oneSlot]) (Nat.le_of_ble_eq_true rfl) rfl ?_
  refine aw_iconst (n := 0) (by decide +kernel) ?_
  refine aw_istore_n (k' := 2) (by decide +kernel) (by decide) ?_
  show AW Γ l mX6_find (d + 1) b 2 [vR 167, vR t1, vI 0] [] (stt g) K
  exact hF
set_option maxHeartbeats 1000000 in
theorem wpX6_find_2 {Γ : Cfg} {l : Launch} {d b : Nat} {g : GG} {K : Ou → HP → Prop} {t1 : Int} (ht1 : HI t1) {y2 : Int} (hF : (6 ≤ wr y2 → Ct Γ l d 0 yX6_pairFrom mX6_pairFrom [vR 167, vR t1, vI 0, vI 0] (stt (upd2 g 167 2 (-1))) (bV (fun g1 => K (.inl vU) (stt g1)) K)) ∧ (¬ (6 ≤ wr y2) → AW Γ l mX6_find (d + 1) b 2 [vR 167, vR t1, vI (y2 + 1)] [] (stt (puc g 168 y2 (-1))) K)) : AW Γ l mX6_find (d + 1) b 2 [vR 167, vR t1, vI y2] [] (stt g) K := by
  refine aw_iload_n (k' := 2) (by decide +kernel) rfl ?_
  refine aw_bipush (n := 6) (by decide +kernel) (by decide +kernel) ?_
  refine ax_icmp_ge (off := 18) (tgt := 23) (x' := wr y2) (y' := 6) (by decide +kernel) (by decide) rfl (by decide +kernel) (fun hc => ?_) (fun hc => ?_)
  · have hF := hF.1 hc
    refine aw_aload_n (k' := 0) (by decide +kernel) rfl ?_
    refine aw_iconst (n := -1) (by decide +kernel) ?_
    refine pfX6_18 rfl (by decide +kernel) (OB.at (ci := 5) (show shp 167 = (15, 0) by decide +kernel) (by decide)) ?_
    show AW Γ l mX6_find (d + 1) b 28 [vR 167, vR t1, vI y2] [] (stt (upd2 g 167 2 (-1))) K
    refine aw_aload_n (k' := 0) (by decide +kernel) rfl ?_
    refine aw_aload_n (k' := 1) (by decide +kernel) rfl ?_
    refine aw_iconst (n := 0) (by decide +kernel) ?_
    refine aw_iconst (n := 0) (by decide +kernel) ?_
    refine aw_callS (y := yX6_pairFrom) (M2 := mX6_pairFrom) (as := [vR 167, vR t1, vI 0, vI 0]) (S := []) (d2 := d) (b2 := 0) (b3 := b) cwX6_pairFrom mlX6_26 stX6_pairFrom (by decide +kernel) rfl (Nat.le_refl _) (Nat.le_of_eq (Nat.zero_add _)) rfl rfl (by simp [oneSlot]) (Nat.le_of_ble_eq_true rfl) (Ct.mono hF ?_)
    rintro o h' (⟨g1, rfl, rfl, hG⟩ | ⟨E, g, rfl, rfl, hG⟩)
    · show AW Γ l mX6_find (d + 1) b 35 [vR 167, vR t1, vI y2] [] (stt g1) K
      exact aw_vret (by decide +kernel) rfl hG
    · exact hG
  · have hF := hF.2 hc
    refine aw_aload_n (k' := 0) (by decide +kernel) rfl ?_
    refine gfX6_9 rfl (by decide +kernel) (OB.at (ci := 5) (show shp 167 = (15, 0) by decide +kernel) (by decide)) ?_
    refine AW.topR (show RC 167 0 = 168 by decide +kernel) ?_
    refine aw_iload_n (k' := 2) (by decide +kernel) rfl ?_
    refine aw_iconst (n := -1) (by decide +kernel) ?_
    refine aw_callSN (host := "HalfOaths") (y := yX11_put) (M2 := mX11_put) (as := [vR 168, vI y2, vI (-1)]) (S := []) (d2 := d) (b2 := 0) (b3 := b) cwX11_put mlX6_22 stX11_put (by decide +kernel) rfl (Nat.le_refl _) (Nat.le_of_eq (Nat.zero_add _)) rfl rfl (by simp [oneSlot]) (Nat.le_of_ble_eq_true rfl) (c_put (show (shp 168).1 = 0 by decide +kernel) ?_)
    show AW Γ l mX6_find (d + 1) b 17 [vR 167, vR t1, vI y2] [] (stt (puc g 168 y2 (-1))) K
    refine aw_iinc (i := 2) (n := 1) (by decide +kernel) rfl (by decide) ?_
    show AW Γ l mX6_find (d + 1) b 20 [vR 167, vR t1, vI (y2 + 1)] [] (stt (puc g 168 y2 (-1))) K
    refine aw_goto (off := -18) (tgt := 2) (by decide +kernel) (by decide) ?_
    exact hF

set_option maxHeartbeats 1000000 in
theorem wpX6_pairFrom {Γ : Cfg} {l : Launch} {d b : Nat} {g : GG} {K : Ou → HP → Prop} {t1 : Int} (ht1 : HI t1) {x2 : Int} {x3 : Int} (hF : (wr x2 < wr (g t1 8) → Ct Γ l d 0 yX6_pairFrom mX6_pairFrom [vR 167, vR t1, vI (x2 + 1), vI x3] (stt g) (bV (fun g1 => (wr (cel g1 168 x2) = -1 → AW Γ l mX6_pairFrom (d + 1) b 41 [vR 167, vR t1, vI x2, vI x3, vI (x2 + 1)] [] (stt g1) K) ∧ (¬ (wr (cel g1 168 x2) = -1) → K (.inl vU) (stt g1))) K)) ∧ (¬ (wr x2 < wr (g t1 8)) → Ct Γ l d 0 yX6_keepIfMore mX6_keepIfMore [vR 167, vI x3] (stt g) (bV (fun g2 => K (.inl vU) (stt g2)) K))) : Ct Γ l (d + 1) b yX6_pairFrom mX6_pairFrom [vR 167, vR t1, vI x2, vI x3] (stt g) K := by
  refine Ct.enter (L := [vR 167, vR t1, vI x2, vI x3, vU]) rfl rfl rfl (by decide +kernel) (by simp [oneSlot]) (Nat.le_of_ble_eq_true rfl) rfl ?_
  refine aw_iload_n (k' := 2) (by decide +kernel) rfl ?_
  refine aw_aload_n (k' := 1) (by decide +kernel) rfl ?_
  refine gfX6_30 rfl (by decide +kernel) (OB.at ht1.ob (by decide)) ?_
  refine ax_icmp_lt (off := 9) (tgt := 14) (x' := wr x2) (y' := wr (g t1 8)) (by decide +kernel) (by decide) rfl rfl (fun hc => ?_) (fun hc => ?_)
  · have hF := hF.1 hc
    refine aw_aload_n (k' := 0) (by decide +kernel) rfl ?_
    refine aw_aload_n (k' := 1) (by decide +kernel) rfl ?_
    refine aw_iload_n (k' := 2) (by decide +kernel) rfl ?_
    refine aw_iconst (n := 1) (by decide +kernel) ?_
    refine aw_iadd (by decide +kernel) ?_
    refine aw_iload_n (k' := 3) (by decide +kernel) rfl ?_
    refine aw_callS (y := yX6_pairFrom) (M2 := mX6_pairFrom) (as := [vR 167, vR t1, vI (x2 + 1), vI x3]) (S := []) (d2 := d) (b2 := 0) (b3 := b) cwX6_pairFrom mlX6_26 stX6_pairFrom (by decide +kernel) rfl (Nat.le_refl _) (Nat.le_of_eq (Nat.zero_add _)) rfl rfl (by simp [oneSlot]) (Nat.le_of_ble_eq_true rfl) (Ct.mono hF ?_)
    rintro o h' (⟨g1, rfl, rfl, hG⟩ | ⟨E, g, rfl, rfl, hG⟩)
    · show AW Γ l mX6_pairFrom (d + 1) b 23 [vR 167, vR t1, vI x2, vI x3, vU] [] (stt g1) K
      refine aw_aload_n (k' := 0) (by decide +kernel) rfl ?_
      refine gfX6_9 rfl (by decide +kernel) (OB.at (ci := 5) (show shp 167 = (15, 0) by decide +kernel) (by decide)) ?_
      refine AW.topR (show RC 167 0 = 168 by decide +kernel) ?_
      refine aw_iload_n (k' := 2) (by decide +kernel) rfl ?_
      refine aw_callSN (host := "HalfOaths") (y := yX11_cell) (M2 := mX11_cell) (as := [vR 168, vI x2]) (S := []) (d2 := d) (b2 := 0) (b3 := b) cwX11_cell mlX6_39 stX11_cell (by decide +kernel) rfl (Nat.le_refl _) (Nat.le_of_eq (Nat.zero_add _)) rfl rfl (by simp [oneSlot]) (Nat.le_of_ble_eq_true rfl) (c_cell (show (shp 168).1 = 0 by decide +kernel) ?_)
      show AW Γ l mX6_pairFrom (d + 1) b 31 [vR 167, vR t1, vI x2, vI x3, vU] [vI (cel g1 168 x2)] (stt g1) K
      refine aw_iconst (n := -1) (by decide +kernel) ?_
      refine ax_icmp_eq (off := 4) (tgt := 36) (x' := wr (cel g1 168 x2)) (y' := -1) (by decide +kernel) (by decide) rfl (by decide +kernel) (fun hc => ?_) (fun hc => ?_)
      · have hG := hG.1 hc
        refine aw_iload_n (k' := 2) (by decide +kernel) rfl ?_
        refine aw_iconst (n := 1) (by decide +kernel) ?_
        refine aw_iadd (by decide +kernel) ?_
        refine aw_istore (i := 4) (by decide +kernel) (by decide) ?_
        show AW Γ l mX6_pairFrom (d + 1) b 41 [vR 167, vR t1, vI x2, vI x3, vI (x2 + 1)] [] (stt g1) K
        exact hG
      · have hG := hG.2 hc
        exact aw_vret (by decide +kernel) rfl hG
    · exact hG
  · have hF := hF.2 hc
    refine aw_aload_n (k' := 0) (by decide +kernel) rfl ?_
    refine aw_iload_n (k' := 3) (by decide +kernel) rfl ?_
    refine aw_callV (y := yX6_keepIfMore) (M2 := mX6_keepIfMore) (as := [vI x3]) (S := []) (t := 167) (d2 := d) (b2 := 0) (b3 := b) cwX6_keepIfMore mlX6_35 imX6_keepIfMore seX6_keepIfMore (by decide +kernel) rfl (ci := 5) rfl (OB.at (ci := 5) (show shp 167 = (15, 0) by decide +kernel) (by decide)) (Nat.le_refl _) (Nat.le_of_eq (Nat.zero_add _)) rfl rfl (by simp [oneSlot]) (Nat.le_of_ble_eq_true rfl) (Ct.mono hF ?_)
    rintro o h' (⟨g2, rfl, rfl, hG⟩ | ⟨E, g, rfl, rfl, hG⟩)
    · show AW Γ l mX6_pairFrom (d + 1) b 13 [vR 167, vR t1, vI x2, vI x3, vU] [] (stt g2) K
      exact aw_vret (by decide +kernel) rfl hG
    · exact hG
set_option maxHeartbeats 1000000 in
theorem wpX6_pairFrom_41 {Γ : Cfg} {l : Launch} {d b : Nat} {g : GG} {K : Ou → HP → Prop} {t1 : Int} (ht1 : HI t1) {x2 : Int} {x3 : Int} {y4 : Int} (hF : (wr (g t1 8) ≤ wr y4 → K (.inl vU) (stt g)) ∧ (¬ (wr (g t1 8) ≤ wr y4) → (¬ wr (cel g 168 y4) = -1 → AW Γ l mX6_pairFrom (d + 1) b 41 [vR 167, vR t1, vI x2, vI x3, vI (y4 + 1)] [] (stt g) K) ∧ (¬ (¬ wr (cel g 168 y4) = -1) → Ct Γ l d 0 yX2_alikeInAll mX2_alikeInAll [vR t1, vI x2, vI y4] (stt (puc (puc g 168 x2 y4) 168 y4 x2)) (bI (fun v1 g1 => Ct Γ l d 0 yX6_pairFrom mX6_pairFrom [vR 167, vR t1, vI (x2 + 1), vI (x3 + v1)] (stt g1) (bV (fun g2 => (∀ g3 : GG, g3 = puc (puc g2 168 x2 (-1)) 168 y4 (-1) → AW Γ l mX6_pairFrom (d + 1) b 41 [vR 167, vR t1, vI x2, vI x3, vI (y4 + 1)] [] (stt g3) K)) K)) K)))) : AW Γ l mX6_pairFrom (d + 1) b 41 [vR 167, vR t1, vI x2, vI x3, vI y4] [] (stt g) K := by
  refine aw_iload (i := 4) (by decide +kernel) rfl ?_
  refine aw_aload_n (k' := 1) (by decide +kernel) rfl ?_
  refine gfX6_30 rfl (by decide +kernel) (OB.at ht1.ob (by decide)) ?_
  refine ax_icmp_ge (off := 78) (tgt := 125) (x' := wr y4) (y' := wr (g t1 8)) (by decide +kernel) (by decide) rfl rfl (fun hc => ?_) (fun hc => ?_)
  · have hF := hF.1 hc
    exact aw_vret (by decide +kernel) rfl hF
  · have hF := hF.2 hc
    refine aw_aload_n (k' := 0) (by decide +kernel) rfl ?_
    refine gfX6_9 rfl (by decide +kernel) (OB.at (ci := 5) (show shp 167 = (15, 0) by decide +kernel) (by decide)) ?_
    refine AW.topR (show RC 167 0 = 168 by decide +kernel) ?_
    refine aw_iload (i := 4) (by decide +kernel) rfl ?_
    refine aw_callSN (host := "HalfOaths") (y := yX11_cell) (M2 := mX11_cell) (as := [vR 168, vI y4]) (S := []) (d2 := d) (b2 := 0) (b3 := b) cwX11_cell mlX6_39 stX11_cell (by decide +kernel) rfl (Nat.le_refl _) (Nat.le_of_eq (Nat.zero_add _)) rfl rfl (by simp [oneSlot]) (Nat.le_of_ble_eq_true rfl) (c_cell (show (shp 168).1 = 0 by decide +kernel) ?_)
    show AW Γ l mX6_pairFrom (d + 1) b 59 [vR 167, vR t1, vI x2, vI x3, vI y4] [vI (cel g 168 y4)] (stt g) K
    refine aw_iconst (n := -1) (by decide +kernel) ?_
    refine ax_icmp_ne (off := 59) (tgt := 119) (x' := wr (cel g 168 y4)) (y' := -1) (by decide +kernel) (by decide) rfl (by decide +kernel) (fun hc => ?_) (fun hc => ?_)
    · have hF := hF.1 hc
      refine aw_iinc (i := 4) (n := 1) (by decide +kernel) rfl (by decide) ?_
      show AW Γ l mX6_pairFrom (d + 1) b 122 [vR 167, vR t1, vI x2, vI x3, vI (y4 + 1)] [] (stt g) K
      refine aw_goto (off := -81) (tgt := 41) (by decide +kernel) (by decide) ?_
      exact hF
    · have hF := hF.2 hc
      refine aw_aload_n (k' := 0) (by decide +kernel) rfl ?_
      refine gfX6_9 rfl (by decide +kernel) (OB.at (ci := 5) (show shp 167 = (15, 0) by decide +kernel) (by decide)) ?_
      refine AW.topR (show RC 167 0 = 168 by decide +kernel) ?_
      refine aw_iload_n (k' := 2) (by decide +kernel) rfl ?_
      refine aw_iload (i := 4) (by decide +kernel) rfl ?_
      refine aw_callSN (host := "HalfOaths") (y := yX11_put) (M2 := mX11_put) (as := [vR 168, vI x2, vI y4]) (S := []) (d2 := d) (b2 := 0) (b3 := b) cwX11_put mlX6_22 stX11_put (by decide +kernel) rfl (Nat.le_refl _) (Nat.le_of_eq (Nat.zero_add _)) rfl rfl (by simp [oneSlot]) (Nat.le_of_ble_eq_true rfl) (c_put (show (shp 168).1 = 0 by decide +kernel) ?_)
      show AW Γ l mX6_pairFrom (d + 1) b 73 [vR 167, vR t1, vI x2, vI x3, vI y4] [] (stt (puc g 168 x2 y4)) K
      refine aw_aload_n (k' := 0) (by decide +kernel) rfl ?_
      refine gfX6_9 rfl (by decide +kernel) (OB.at (ci := 5) (show shp 167 = (15, 0) by decide +kernel) (by decide)) ?_
      refine AW.topR (show RC 167 0 = 168 by decide +kernel) ?_
      refine aw_iload (i := 4) (by decide +kernel) rfl ?_
      refine aw_iload_n (k' := 2) (by decide +kernel) rfl ?_
      refine aw_callSN (host := "HalfOaths") (y := yX11_put) (M2 := mX11_put) (as := [vR 168, vI y4, vI x2]) (S := []) (d2 := d) (b2 := 0) (b3 := b) cwX11_put mlX6_22 stX11_put (by decide +kernel) rfl (Nat.le_refl _) (Nat.le_of_eq (Nat.zero_add _)) rfl rfl (by simp [oneSlot]) (Nat.le_of_ble_eq_true rfl) (c_put (show (shp 168).1 = 0 by decide +kernel) ?_)
      show AW Γ l mX6_pairFrom (d + 1) b 83 [vR 167, vR t1, vI x2, vI x3, vI y4] [] (stt (puc (puc g 168 x2 y4) 168 y4 x2)) K
      refine aw_aload_n (k' := 0) (by decide +kernel) rfl ?_
      refine aw_aload_n (k' := 1) (by decide +kernel) rfl ?_
      refine aw_iload_n (k' := 2) (by decide +kernel) rfl ?_
      refine aw_iconst (n := 1) (by decide +kernel) ?_
      refine aw_iadd (by decide +kernel) ?_
      refine aw_iload_n (k' := 3) (by decide +kernel) rfl ?_
      refine aw_aload_n (k' := 1) (by decide +kernel) rfl ?_
      refine aw_iload_n (k' := 2) (by decide +kernel) rfl ?_
      refine aw_iload (i := 4) (by decide +kernel) rfl ?_
      refine aw_callV (y := yX2_alikeInAll) (M2 := mX2_alikeInAll) (as := [vI x2, vI y4]) (S := [vI x3, vI (x2 + 1), vR t1, vR 167]) (t := t1) (d2 := d) (b2 := 0) (b3 := b) cwX2_alikeInAll mlX6_43 imX2_alikeInAll seX2_alikeInAll (by decide +kernel) rfl (ci := 2) rfl (OB.at ht1.ob (by decide)) (Nat.le_refl _) (Nat.le_of_eq (Nat.zero_add _)) rfl rfl (by simp [oneSlot]) (Nat.le_of_ble_eq_true rfl) (Ct.mono hF ?_)
      rintro o h' (⟨v1, g1, rfl, rfl, hG⟩ | ⟨E, g, rfl, rfl, hG⟩)
      · show AW Γ l mX6_pairFrom (d + 1) b 96 [vR 167, vR t1, vI x2, vI x3, vI y4] [vI v1, vI x3, vI (x2 + 1), vR t1, vR 167] (stt g1) K
        refine aw_iadd (by decide +kernel) ?_
        refine aw_callS (y := yX6_pairFrom) (M2 := mX6_pairFrom) (as := [vR 167, vR t1, vI (x2 + 1), vI (x3 + v1)]) (S := []) (d2 := d) (b2 := 0) (b3 := b) cwX6_pairFrom mlX6_26 stX6_pairFrom (by decide +kernel) rfl (Nat.le_refl _) (Nat.le_of_eq (Nat.zero_add _)) rfl rfl (by simp [oneSlot]) (Nat.le_of_ble_eq_true rfl) (Ct.mono hG ?_)
        rintro o h' (⟨g2, rfl, rfl, hG⟩ | ⟨E, g, rfl, rfl, hG⟩)
        · show AW Γ l mX6_pairFrom (d + 1) b 100 [vR 167, vR t1, vI x2, vI x3, vI y4] [] (stt g2) K
          refine aw_aload_n (k' := 0) (by decide +kernel) rfl ?_
          refine gfX6_9 rfl (by decide +kernel) (OB.at (ci := 5) (show shp 167 = (15, 0) by decide +kernel) (by decide)) ?_
          refine AW.topR (show RC 167 0 = 168 by decide +kernel) ?_
          refine aw_iload_n (k' := 2) (by decide +kernel) rfl ?_
          refine aw_iconst (n := -1) (by decide +kernel) ?_
          refine aw_callSN (host := "HalfOaths") (y := yX11_put) (M2 := mX11_put) (as := [vR 168, vI x2, vI (-1)]) (S := []) (d2 := d) (b2 := 0) (b3 := b) cwX11_put mlX6_22 stX11_put (by decide +kernel) rfl (Nat.le_refl _) (Nat.le_of_eq (Nat.zero_add _)) rfl rfl (by simp [oneSlot]) (Nat.le_of_ble_eq_true rfl) (c_put (show (shp 168).1 = 0 by decide +kernel) ?_)
          show AW Γ l mX6_pairFrom (d + 1) b 109 [vR 167, vR t1, vI x2, vI x3, vI y4] [] (stt (puc g2 168 x2 (-1))) K
          refine aw_aload_n (k' := 0) (by decide +kernel) rfl ?_
          refine gfX6_9 rfl (by decide +kernel) (OB.at (ci := 5) (show shp 167 = (15, 0) by decide +kernel) (by decide)) ?_
          refine AW.topR (show RC 167 0 = 168 by decide +kernel) ?_
          refine aw_iload (i := 4) (by decide +kernel) rfl ?_
          refine aw_iconst (n := -1) (by decide +kernel) ?_
          refine aw_callSN (host := "HalfOaths") (y := yX11_put) (M2 := mX11_put) (as := [vR 168, vI y4, vI (-1)]) (S := []) (d2 := d) (b2 := 0) (b3 := b) cwX11_put mlX6_22 stX11_put (by decide +kernel) rfl (Nat.le_refl _) (Nat.le_of_eq (Nat.zero_add _)) rfl rfl (by simp [oneSlot]) (Nat.le_of_ble_eq_true rfl) (c_put (show (shp 168).1 = 0 by decide +kernel) ?_)
          show AW Γ l mX6_pairFrom (d + 1) b 119 [vR 167, vR t1, vI x2, vI x3, vI y4] [] (stt (puc (puc g2 168 x2 (-1)) 168 y4 (-1))) K
          show AW Γ l mX6_pairFrom (d + 1) b 119 [vR 167, vR t1, vI x2, vI x3, vI y4] [] (stt (puc (puc g2 168 x2 (-1)) 168 y4 (-1))) K
          generalize eg3 : puc (puc g2 168 x2 (-1)) 168 y4 (-1) = g3
          replace hG := hG g3 eg3.symm
          refine aw_iinc (i := 4) (n := 1) (by decide +kernel) rfl (by decide) ?_
          show AW Γ l mX6_pairFrom (d + 1) b 122 [vR 167, vR t1, vI x2, vI x3, vI (y4 + 1)] [] (stt g3) K
          refine aw_goto (off := -81) (tgt := 41) (by decide +kernel) (by decide) ?_
          exact hG
        · exact hG
      · exact hG

set_option maxHeartbeats 1000000 in
theorem wpX6_keepIfMore {Γ : Cfg} {l : Launch} {d b : Nat} {g : GG} {K : Ou → HP → Prop} {x1 : Int} (hF : (wr x1 ≤ wr (g 167 2) → K (.inl vU) (stt g)) ∧ (¬ (wr x1 ≤ wr (g 167 2)) → AW Γ l mX6_keepIfMore (d + 1) b 15 [vR 167, vI x1, vI 0] [] (stt (upd2 g 167 2 x1)) K)) : Ct Γ l (d + 1) b yX6_keepIfMore mX6_keepIfMore [vR 167, vI x1] (stt g) K := by
  refine Ct.enter (L := [vR 167, vI x1, vU]) rfl rfl rfl (by decide +kernel) (by simp [oneSlot]) (Nat.le_of_ble_eq_true rfl) rfl ?_
  refine aw_iload_n (k' := 1) (by decide +kernel) rfl ?_
  refine aw_aload_n (k' := 0) (by decide +kernel) rfl ?_
  refine gfX6_18 rfl (by decide +kernel) (OB.at (ci := 5) (show shp 167 = (15, 0) by decide +kernel) (by decide)) ?_
  refine ax_icmp_le (off := 38) (tgt := 43) (x' := wr x1) (y' := wr (g 167 2)) (by decide +kernel) (by decide) rfl rfl (fun hc => ?_) (fun hc => ?_)
  · have hF := hF.1 hc
    exact aw_vret (by decide +kernel) rfl hF
  · have hF := hF.2 hc
    refine aw_aload_n (k' := 0) (by decide +kernel) rfl ?_
    refine aw_iload_n (k' := 1) (by decide +kernel) rfl ?_
    refine pfX6_18 rfl (by decide +kernel) (OB.at (ci := 5) (show shp 167 = (15, 0) by decide +kernel) (by decide)) ?_
    show AW Γ l mX6_keepIfMore (d + 1) b 13 [vR 167, vI x1, vU] [] (stt (upd2 g 167 2 x1)) K
    refine aw_iconst (n := 0) (by decide +kernel) ?_
    refine aw_istore_n (k' := 2) (by decide +kernel) (by decide) ?_
    show AW Γ l mX6_keepIfMore (d + 1) b 15 [vR 167, vI x1, vI 0] [] (stt (upd2 g 167 2 x1)) K
    exact hF
set_option maxHeartbeats 1000000 in
theorem wpX6_keepIfMore_15 {Γ : Cfg} {l : Launch} {d b : Nat} {g : GG} {K : Ou → HP → Prop} {x1 : Int} {y2 : Int} (hF : (6 ≤ wr y2 → K (.inl vU) (stt g)) ∧ (¬ (6 ≤ wr y2) → AW Γ l mX6_keepIfMore (d + 1) b 15 [vR 167, vI x1, vI (y2 + 1)] [] (stt (puc g 169 y2 (cel g 168 y2))) K)) : AW Γ l mX6_keepIfMore (d + 1) b 15 [vR 167, vI x1, vI y2] [] (stt g) K := by
  refine aw_iload_n (k' := 2) (by decide +kernel) rfl ?_
  refine aw_bipush (n := 6) (by decide +kernel) (by decide +kernel) ?_
  refine ax_icmp_ge (off := 25) (tgt := 43) (x' := wr y2) (y' := 6) (by decide +kernel) (by decide) rfl (by decide +kernel) (fun hc => ?_) (fun hc => ?_)
  · have hF := hF.1 hc
    exact aw_vret (by decide +kernel) rfl hF
  · have hF := hF.2 hc
    refine aw_aload_n (k' := 0) (by decide +kernel) rfl ?_
    refine gfX6_15 rfl (by decide +kernel) (OB.at (ci := 5) (show shp 167 = (15, 0) by decide +kernel) (by decide)) ?_
    refine AW.topR (show RC 167 1 = 169 by decide +kernel) ?_
    refine aw_iload_n (k' := 2) (by decide +kernel) rfl ?_
    refine aw_aload_n (k' := 0) (by decide +kernel) rfl ?_
    refine gfX6_9 rfl (by decide +kernel) (OB.at (ci := 5) (show shp 167 = (15, 0) by decide +kernel) (by decide)) ?_
    refine AW.topR (show RC 167 0 = 168 by decide +kernel) ?_
    refine aw_iload_n (k' := 2) (by decide +kernel) rfl ?_
    refine aw_callSN (host := "HalfOaths") (y := yX11_cell) (M2 := mX11_cell) (as := [vR 168, vI y2]) (S := [vI y2, vR 169]) (d2 := d) (b2 := 0) (b3 := b) cwX11_cell mlX6_39 stX11_cell (by decide +kernel) rfl (Nat.le_refl _) (Nat.le_of_eq (Nat.zero_add _)) rfl rfl (by simp [oneSlot]) (Nat.le_of_ble_eq_true rfl) (c_cell (show (shp 168).1 = 0 by decide +kernel) ?_)
    show AW Γ l mX6_keepIfMore (d + 1) b 34 [vR 167, vI x1, vI y2] [vI (cel g 168 y2), vI y2, vR 169] (stt g) K
    refine aw_callSN (host := "HalfOaths") (y := yX11_put) (M2 := mX11_put) (as := [vR 169, vI y2, vI (cel g 168 y2)]) (S := []) (d2 := d) (b2 := 0) (b3 := b) cwX11_put mlX6_22 stX11_put (by decide +kernel) rfl (Nat.le_refl _) (Nat.le_of_eq (Nat.zero_add _)) rfl rfl (by simp [oneSlot]) (Nat.le_of_ble_eq_true rfl) (c_put (show (shp 169).1 = 0 by decide +kernel) ?_)
    show AW Γ l mX6_keepIfMore (d + 1) b 37 [vR 167, vI x1, vI y2] [] (stt (puc g 169 y2 (cel g 168 y2))) K
    refine aw_iinc (i := 2) (n := 1) (by decide +kernel) rfl (by decide) ?_
    show AW Γ l mX6_keepIfMore (d + 1) b 40 [vR 167, vI x1, vI (y2 + 1)] [] (stt (puc g 169 y2 (cel g 168 y2))) K
    refine aw_goto (off := -25) (tgt := 15) (by decide +kernel) (by decide) ?_
    exact hF

set_option maxHeartbeats 1000000 in
theorem wpX7_weight {Γ : Cfg} {l : Launch} {d b : Nat} {g : GG} {K : Ou → HP → Prop} {t1 : Int} (ht1 : HI t1) {x2 : Int} {x3 : Int} (hF : Ct Γ l d 0 yX7_readWords mX7_readWords [vR 153, vR (t1 + 1 + 0), vI (x2 * 12), vI x3, vR (t1 + 1 + 6)] (stt g) (bV (fun g1 => (¬ wr x3 = wr (cel g1 (t1 + 1 + 1) x2) → Ct Γ l d 0 yX7_judge mX7_judge [vR 153, vI x2, vI x3, vI 0] (stt g1) (bI (fun v1 g2 => K (.inl (vI v1)) (stt g2)) K)) ∧ (¬ (¬ wr x3 = wr (cel g1 (t1 + 1 + 1) x2)) → Ct Γ l d 0 yX7_judge mX7_judge [vR 153, vI x2, vI x3, vI 1] (stt g1) (bI (fun v2 g3 => K (.inl (vI v2)) (stt g3)) K))) K)) : Ct Γ l (d + 1) b yX7_weight mX7_weight [vR 153, vR t1, vI x2, vI x3] (stt g) K := by
  refine Ct.enter (L := [vR 153, vR t1, vI x2, vI x3]) rfl rfl rfl (by decide +kernel) (by simp [oneSlot]) (Nat.le_of_ble_eq_true rfl) rfl ?_
  refine aw_aload_n (k' := 0) (by decide +kernel) rfl ?_
  refine aw_aload_n (k' := 1) (by decide +kernel) rfl ?_
  refine gfX7_35 rfl (by decide +kernel) (OB.at ht1.ob (by decide)) ?_
  refine AW.topR (ht1.r0) ?_
  refine aw_iload_n (k' := 2) (by decide +kernel) rfl ?_
  refine aw_bipush (n := 12) (by decide +kernel) (by decide +kernel) ?_
  refine aw_imul (by decide +kernel) ?_
  refine aw_iload_n (k' := 3) (by decide +kernel) rfl ?_
  refine aw_aload_n (k' := 1) (by decide +kernel) rfl ?_
  refine gfX7_40 rfl (by decide +kernel) (OB.at ht1.ob (by decide)) ?_
  refine AW.topR (ht1.r6) ?_
  refine aw_callV (y := yX7_readWords) (M2 := mX7_readWords) (as := [vR (t1 + 1 + 0), vI (x2 * 12), vI x3, vR (t1 + 1 + 6)]) (S := []) (t := 153) (d2 := d) (b2 := 0) (b3 := b) cwX7_readWords mlX7_43 imX7_readWords seX7_readWords (by decide +kernel) rfl (ci := 6) rfl (OB.at (ci := 6) (show shp 153 = (16, 0) by decide +kernel) (by decide)) (Nat.le_refl _) (Nat.le_of_eq (Nat.zero_add _)) rfl rfl (by simp [oneSlot]) (Nat.le_of_ble_eq_true rfl) (Ct.mono hF ?_)
  rintro o h' (⟨g1, rfl, rfl, hG⟩ | ⟨E, g, rfl, rfl, hG⟩)
  · show AW Γ l mX7_weight (d + 1) b 17 [vR 153, vR t1, vI x2, vI x3] [] (stt g1) K
    refine aw_aload_n (k' := 0) (by decide +kernel) rfl ?_
    refine aw_iload_n (k' := 2) (by decide +kernel) rfl ?_
    refine aw_iload_n (k' := 3) (by decide +kernel) rfl ?_
    refine aw_iload_n (k' := 3) (by decide +kernel) rfl ?_
    refine aw_aload_n (k' := 1) (by decide +kernel) rfl ?_
    refine gfX7_47 rfl (by decide +kernel) (OB.at ht1.ob (by decide)) ?_
    refine AW.topR (ht1.r1) ?_
    refine aw_iload_n (k' := 2) (by decide +kernel) rfl ?_
    refine aw_callSN (host := "HalfOaths") (y := yX11_cell) (M2 := mX11_cell) (as := [vR (t1 + 1 + 1), vI x2]) (S := [vI x3, vI x3, vI x2, vR 153]) (d2 := d) (b2 := 0) (b3 := b) cwX11_cell mlX7_50 stX11_cell (by decide +kernel) rfl (Nat.le_refl _) (Nat.le_of_eq (Nat.zero_add _)) rfl rfl (by simp [oneSlot]) (Nat.le_of_ble_eq_true rfl) (c_cell (ht1.a1) ?_)
    show AW Γ l mX7_weight (d + 1) b 29 [vR 153, vR t1, vI x2, vI x3] [vI (cel g1 (t1 + 1 + 1) x2), vI x3, vI x3, vI x2, vR 153] (stt g1) K
    refine ax_icmp_ne (off := 7) (tgt := 36) (x' := wr x3) (y' := wr (cel g1 (t1 + 1 + 1) x2)) (by decide +kernel) (by decide) rfl rfl (fun hc => ?_) (fun hc => ?_)
    · have hG := hG.1 hc
      refine aw_iconst (n := 0) (by decide +kernel) ?_
      refine aw_callV (y := yX7_judge) (M2 := mX7_judge) (as := [vI x2, vI x3, vI 0]) (S := []) (t := 153) (d2 := d) (b2 := 0) (b3 := b) cwX7_judge mlX7_54 imX7_judge seX7_judge (by decide +kernel) rfl (ci := 6) rfl (OB.at (ci := 6) (show shp 153 = (16, 0) by decide +kernel) (by decide)) (Nat.le_refl _) (Nat.le_of_eq (Nat.zero_add _)) rfl rfl (by simp [oneSlot]) (Nat.le_of_ble_eq_true rfl) (Ct.mono hG ?_)
      rintro o h' (⟨v1, g2, rfl, rfl, hG⟩ | ⟨E, g, rfl, rfl, hG⟩)
      · show AW Γ l mX7_weight (d + 1) b 40 [vR 153, vR t1, vI x2, vI x3] [vI v1] (stt g2) K
        exact aw_iret (by decide +kernel) rfl hG
      · exact hG
    · have hG := hG.2 hc
      refine aw_iconst (n := 1) (by decide +kernel) ?_
      refine aw_goto (off := 4) (tgt := 37) (by decide +kernel) (by decide) ?_
      refine aw_callV (y := yX7_judge) (M2 := mX7_judge) (as := [vI x2, vI x3, vI 1]) (S := []) (t := 153) (d2 := d) (b2 := 0) (b3 := b) cwX7_judge mlX7_54 imX7_judge seX7_judge (by decide +kernel) rfl (ci := 6) rfl (OB.at (ci := 6) (show shp 153 = (16, 0) by decide +kernel) (by decide)) (Nat.le_refl _) (Nat.le_of_eq (Nat.zero_add _)) rfl rfl (by simp [oneSlot]) (Nat.le_of_ble_eq_true rfl) (Ct.mono hG ?_)
      rintro o h' (⟨v2, g3, rfl, rfl, hG⟩ | ⟨E, g, rfl, rfl, hG⟩)
      · show AW Γ l mX7_weight (d + 1) b 40 [vR 153, vR t1, vI x2, vI x3] [vI v2] (stt g3) K
        exact aw_iret (by decide +kernel) rfl hG
      · exact hG
  · exact hG

set_option maxHeartbeats 1000000 in
theorem wpX7_readWords {Γ : Cfg} {l : Launch} {d b : Nat} {g : GG} {K : Ou → HP → Prop} {r1 : Int} (hr1 : IA r1) {x2 : Int} {x3 : Int} {r4 : Int} (hr4 : IA r4) (hF : Ct Γ l d 0 yX0_clear mX0_clear [vR 154] (stt g) (bV (fun g1 => AW Γ l mX7_readWords (d + 1) b 14 [vR 153, vR r1, vI x2, vI x3, vR r4, vR 154, vI 0, vU, vU] [] (stt g1) K) K)) : Ct Γ l (d + 1) b yX7_readWords mX7_readWords [vR 153, vR r1, vI x2, vI x3, vR r4] (stt g) K := by
  refine Ct.enter (L := [vR 153, vR r1, vI x2, vI x3, vR r4, vU, vU, vU, vU]) rfl rfl rfl (by decide +kernel) (by simp [oneSlot]) (Nat.le_of_ble_eq_true rfl) rfl ?_
  refine aw_aload_n (k' := 0) (by decide +kernel) rfl ?_
  refine gfX7_18 rfl (by decide +kernel) (OB.at (ci := 6) (show shp 153 = (16, 0) by decide +kernel) (by decide)) ?_
  refine AW.topR (show RC 153 1 = 154 by decide +kernel) ?_
  refine aw_astore (i := 5) (by decide +kernel) (by decide) ?_
  show AW Γ l mX7_readWords (d + 1) b 6 [vR 153, vR r1, vI x2, vI x3, vR r4, vR 154, vU, vU, vU] [] (stt g) K
  refine aw_aload (i := 5) (by decide +kernel) rfl ?_
  refine aw_callV (y := yX0_clear) (M2 := mX0_clear) (as := []) (S := []) (t := 154) (d2 := d) (b2 := 0) (b3 := b) cwX0_clear mlX7_58 imX0_clear seX0_clear (by decide +kernel) rfl (ci := 0) rfl (OB.at (ci := 0) (show shp 154 = (10, 0) by decide +kernel) (by decide)) (Nat.le_refl _) (Nat.le_of_eq (Nat.zero_add _)) rfl rfl (by simp [oneSlot]) (Nat.le_of_ble_eq_true rfl) (Ct.mono hF ?_)
  rintro o h' (⟨g1, rfl, rfl, hG⟩ | ⟨E, g, rfl, rfl, hG⟩)
  · show AW Γ l mX7_readWords (d + 1) b 11 [vR 153, vR r1, vI x2, vI x3, vR r4, vR 154, vU, vU, vU] [] (stt g1) K
    refine aw_iconst (n := 0) (by decide +kernel) ?_
    refine aw_istore (i := 6) (by decide +kernel) (by decide) ?_
    show AW Γ l mX7_readWords (d + 1) b 14 [vR 153, vR r1, vI x2, vI x3, vR r4, vR 154, vI 0, vU, vU] [] (stt g1) K
    exact hG
  · exact hG
set_option maxHeartbeats 1000000 in
theorem wpX7_readWords_14 {Γ : Cfg} {l : Launch} {d b : Nat} {g : GG} {K : Ou → HP → Prop} {r1 : Int} (hr1 : IA r1) {x2 : Int} {x3 : Int} {r4 : Int} (hr4 : IA r4) {y5 : Int} (hy5 : CU y5) {y6 : Int} (hF : (wr x3 ≤ wr y6 → AW Γ l mX7_readWords (d + 1) b 123 [vR 153, vR r1, vI x2, vI x3, vR r4, vR y5, vI 0, vU, vU] [] (stt g) K) ∧ (¬ (wr x3 ≤ wr y6) → (¬ wr (iDiv (cel g r1 (x2 + y6)) 10) = 8 → (¬ wr (iDiv (cel g r1 (x2 + y6)) 10) = 9 → Ct Γ l d 0 yX0_take mX0_take [vR y5, vI (iDiv (cel g r1 (x2 + y6)) 10), vI (iRem (cel g r1 (x2 + y6)) 10)] (stt g) (bV (fun g1 => AW Γ l mX7_readWords (d + 1) b 14 [vR 153, vR r1, vI x2, vI x3, vR r4, vR y5, vI (y6 + 1), vI (cel g r1 (x2 + y6)), vI (iDiv (cel g r1 (x2 + y6)) 10)] [] (stt g1) K) K)) ∧ (¬ (¬ wr (iDiv (cel g r1 (x2 + y6)) 10) = 9) → (RC y5 0 = 0 → Ct Γ l d 0 yX0_take mX0_take [vR y5, vI (iDiv (cel g r1 (x2 + y6)) 10), vI (iRem (cel g r1 (x2 + y6)) 10)] (stt g) (bV (fun g2 => AW Γ l mX7_readWords (d + 1) b 14 [vR 153, vR r1, vI x2, vI x3, vR r4, vR y5, vI (y6 + 1), vI (cel g r1 (x2 + y6)), vI (iDiv (cel g r1 (x2 + y6)) 10)] [] (stt g2) K) K)) ∧ (¬ (RC y5 0 = 0) → (CU (RC y5 0)) ∧ (Ct Γ l d 0 yX0_lay mX0_lay [vR (RC y5 0), vR y5] (stt g) (bV (fun g3 => AW Γ l mX7_readWords (d + 1) b 14 [vR 153, vR r1, vI x2, vI x3, vR r4, vR (RC y5 0), vI (y6 + 1), vI (cel g r1 (x2 + y6)), vI (iDiv (cel g r1 (x2 + y6)) 10)] [] (stt g3) K) K))))) ∧ (¬ (¬ wr (iDiv (cel g r1 (x2 + y6)) 10) = 8) → (RC y5 1 = 0 → (¬ wr (iDiv (cel g r1 (x2 + y6)) 10) = 9 → Ct Γ l d 0 yX0_take mX0_take [vR y5, vI (iDiv (cel g r1 (x2 + y6)) 10), vI (iRem (cel g r1 (x2 + y6)) 10)] (stt g) (bV (fun g4 => AW Γ l mX7_readWords (d + 1) b 14 [vR 153, vR r1, vI x2, vI x3, vR r4, vR y5, vI (y6 + 1), vI (cel g r1 (x2 + y6)), vI (iDiv (cel g r1 (x2 + y6)) 10)] [] (stt g4) K) K)) ∧ (¬ (¬ wr (iDiv (cel g r1 (x2 + y6)) 10) = 9) → (RC y5 0 = 0 → Ct Γ l d 0 yX0_take mX0_take [vR y5, vI (iDiv (cel g r1 (x2 + y6)) 10), vI (iRem (cel g r1 (x2 + y6)) 10)] (stt g) (bV (fun g5 => AW Γ l mX7_readWords (d + 1) b 14 [vR 153, vR r1, vI x2, vI x3, vR r4, vR y5, vI (y6 + 1), vI (cel g r1 (x2 + y6)), vI (iDiv (cel g r1 (x2 + y6)) 10)] [] (stt g5) K) K)) ∧ (¬ (RC y5 0 = 0) → (CU (RC y5 0)) ∧ (Ct Γ l d 0 yX0_lay mX0_lay [vR (RC y5 0), vR y5] (stt g) (bV (fun g6 => AW Γ l mX7_readWords (d + 1) b 14 [vR 153, vR r1, vI x2, vI x3, vR r4, vR (RC y5 0), vI (y6 + 1), vI (cel g r1 (x2 + y6)), vI (iDiv (cel g r1 (x2 + y6)) 10)] [] (stt g6) K) K))))) ∧ (¬ (RC y5 1 = 0) → (CU (RC y5 1)) ∧ (Ct Γ l d 0 yX0_clear mX0_clear [vR (RC y5 1)] (stt g) (bV (fun g7 => AW Γ l mX7_readWords (d + 1) b 14 [vR 153, vR r1, vI x2, vI x3, vR r4, vR (RC y5 1), vI (y6 + 1), vI (cel g r1 (x2 + y6)), vI (iDiv (cel g r1 (x2 + y6)) 10)] [] (stt g7) K) K)))))) : AW Γ l mX7_readWords (d + 1) b 14 [vR 153, vR r1, vI x2, vI x3, vR r4, vR y5, vI y6, vU, vU] [] (stt g) K := by
  refine aw_iload (i := 6) (by decide +kernel) rfl ?_
  refine aw_iload_n (k' := 3) (by decide +kernel) rfl ?_
  refine ax_icmp_ge (off := 103) (tgt := 120) (x' := wr y6) (y' := wr x3) (by decide +kernel) (by decide) rfl rfl (fun hc => ?_) (fun hc => ?_)
  · have hF := hF.1 hc
    refine aw_iconst (n := 0) (by decide +kernel) ?_
    refine aw_istore (i := 6) (by decide +kernel) (by decide) ?_
    show AW Γ l mX7_readWords (d + 1) b 123 [vR 153, vR r1, vI x2, vI x3, vR r4, vR y5, vI 0, vU, vU] [] (stt g) K
    exact hF
  · have hF := hF.2 hc
    refine aw_aload_n (k' := 1) (by decide +kernel) rfl ?_
    refine aw_iload_n (k' := 2) (by decide +kernel) rfl ?_
    refine aw_iload (i := 6) (by decide +kernel) rfl ?_
    refine aw_iadd (by decide +kernel) ?_
    refine aw_callSN (host := "HalfOaths") (y := yX11_cell) (M2 := mX11_cell) (as := [vR r1, vI (x2 + y6)]) (S := []) (d2 := d) (b2 := 0) (b3 := b) cwX11_cell mlX7_50 stX11_cell (by decide +kernel) rfl (Nat.le_refl _) (Nat.le_of_eq (Nat.zero_add _)) rfl rfl (by simp [oneSlot]) (Nat.le_of_ble_eq_true rfl) (c_cell hr1 ?_)
    show AW Γ l mX7_readWords (d + 1) b 28 [vR 153, vR r1, vI x2, vI x3, vR r4, vR y5, vI y6, vU, vU] [vI (cel g r1 (x2 + y6))] (stt g) K
    refine aw_istore (i := 7) (by decide +kernel) (by decide) ?_
    show AW Γ l mX7_readWords (d + 1) b 30 [vR 153, vR r1, vI x2, vI x3, vR r4, vR y5, vI y6, vI (cel g r1 (x2 + y6)), vU] [] (stt g) K
    refine aw_iload (i := 7) (by decide +kernel) rfl ?_
    refine aw_bipush (n := 10) (by decide +kernel) (by decide +kernel) ?_
    refine aw_idiv (by decide +kernel) (by decide +kernel) ?_
    refine aw_istore (i := 8) (by decide +kernel) (by decide) ?_
    show AW Γ l mX7_readWords (d + 1) b 37 [vR 153, vR r1, vI x2, vI x3, vR r4, vR y5, vI y6, vI (cel g r1 (x2 + y6)), vI (iDiv (cel g r1 (x2 + y6)) 10)] [] (stt g) K
    refine aw_iload (i := 8) (by decide +kernel) rfl ?_
    refine aw_bipush (n := 8) (by decide +kernel) (by decide +kernel) ?_
    refine ax_icmp_ne (off := 26) (tgt := 67) (x' := wr (iDiv (cel g r1 (x2 + y6)) 10)) (y' := 8) (by decide +kernel) (by decide) rfl (by decide +kernel) (fun hc => ?_) (fun hc => ?_)
    · have hF := hF.1 hc
      refine aw_iload (i := 8) (by decide +kernel) rfl ?_
      refine aw_bipush (n := 9) (by decide +kernel) (by decide +kernel) ?_
      refine ax_icmp_ne (off := 31) (tgt := 102) (x' := wr (iDiv (cel g r1 (x2 + y6)) 10)) (y' := 9) (by decide +kernel) (by decide) rfl (by decide +kernel) (fun hc => ?_) (fun hc => ?_)
      · have hF := hF.1 hc
        refine aw_aload (i := 5) (by decide +kernel) rfl ?_
        refine aw_iload (i := 8) (by decide +kernel) rfl ?_
        refine aw_iload (i := 7) (by decide +kernel) rfl ?_
        refine aw_bipush (n := 10) (by decide +kernel) (by decide +kernel) ?_
        refine aw_irem (by decide +kernel) (by decide +kernel) ?_
        refine aw_callV (y := yX0_take) (M2 := mX0_take) (as := [vI (iDiv (cel g r1 (x2 + y6)) 10), vI (iRem (cel g r1 (x2 + y6)) 10)]) (S := []) (t := y5) (d2 := d) (b2 := 0) (b3 := b) cwX0_take mlX7_65 imX0_take seX0_take (by decide +kernel) rfl (ci := 0) rfl (OB.at hy5.ob (by decide)) (Nat.le_refl _) (Nat.le_of_eq (Nat.zero_add _)) rfl rfl (by simp [oneSlot]) (Nat.le_of_ble_eq_true rfl) (Ct.mono hF ?_)
        rintro o h' (⟨g1, rfl, rfl, hG⟩ | ⟨E, g, rfl, rfl, hG⟩)
        · show AW Γ l mX7_readWords (d + 1) b 114 [vR 153, vR r1, vI x2, vI x3, vR r4, vR y5, vI y6, vI (cel g r1 (x2 + y6)), vI (iDiv (cel g r1 (x2 + y6)) 10)] [] (stt g1) K
          refine aw_iinc (i := 6) (n := 1) (by decide +kernel) rfl (by decide) ?_
          show AW Γ l mX7_readWords (d + 1) b 117 [vR 153, vR r1, vI x2, vI x3, vR r4, vR y5, vI (y6 + 1), vI (cel g r1 (x2 + y6)), vI (iDiv (cel g r1 (x2 + y6)) 10)] [] (stt g1) K
          refine aw_goto (off := -103) (tgt := 14) (by decide +kernel) (by decide) ?_
          exact hG
        · exact hG
      · have hF := hF.2 hc
        refine aw_aload (i := 5) (by decide +kernel) rfl ?_
        refine gfX7_32 rfl (by decide +kernel) (OB.at hy5.ob (by decide)) ?_
        refine aw_ifnull (off := 23) (tgt := 102) (by decide +kernel) (by decide) (fun hc => ?_) (fun hc => ?_)
        · have hF := hF.1 hc
          refine aw_aload (i := 5) (by decide +kernel) rfl ?_
          refine aw_iload (i := 8) (by decide +kernel) rfl ?_
          refine aw_iload (i := 7) (by decide +kernel) rfl ?_
          refine aw_bipush (n := 10) (by decide +kernel) (by decide +kernel) ?_
          refine aw_irem (by decide +kernel) (by decide +kernel) ?_
          refine aw_callV (y := yX0_take) (M2 := mX0_take) (as := [vI (iDiv (cel g r1 (x2 + y6)) 10), vI (iRem (cel g r1 (x2 + y6)) 10)]) (S := []) (t := y5) (d2 := d) (b2 := 0) (b3 := b) cwX0_take mlX7_65 imX0_take seX0_take (by decide +kernel) rfl (ci := 0) rfl (OB.at hy5.ob (by decide)) (Nat.le_refl _) (Nat.le_of_eq (Nat.zero_add _)) rfl rfl (by simp [oneSlot]) (Nat.le_of_ble_eq_true rfl) (Ct.mono hF ?_)
          rintro o h' (⟨g2, rfl, rfl, hG⟩ | ⟨E, g, rfl, rfl, hG⟩)
          · show AW Γ l mX7_readWords (d + 1) b 114 [vR 153, vR r1, vI x2, vI x3, vR r4, vR y5, vI y6, vI (cel g r1 (x2 + y6)), vI (iDiv (cel g r1 (x2 + y6)) 10)] [] (stt g2) K
            refine aw_iinc (i := 6) (n := 1) (by decide +kernel) rfl (by decide) ?_
            show AW Γ l mX7_readWords (d + 1) b 117 [vR 153, vR r1, vI x2, vI x3, vR r4, vR y5, vI (y6 + 1), vI (cel g r1 (x2 + y6)), vI (iDiv (cel g r1 (x2 + y6)) 10)] [] (stt g2) K
            refine aw_goto (off := -103) (tgt := 14) (by decide +kernel) (by decide) ?_
            exact hG
          · exact hG
        · have hF := hF.2 hc
          refine aw_aload (i := 5) (by decide +kernel) rfl ?_
          refine gfX7_32 rfl (by decide +kernel) (OB.at hy5.ob (by decide)) ?_
          refine aw_aload (i := 5) (by decide +kernel) rfl ?_
          refine aw_callV (y := yX0_lay) (M2 := mX0_lay) (as := [vR y5]) (S := []) (t := (RC y5 0)) (d2 := d) (b2 := 0) (b3 := b) cwX0_lay mlX7_61 imX0_lay seX0_lay (by decide +kernel) rfl (ci := 0) rfl (OB.at (hF.1).ob (by decide)) (Nat.le_refl _) (Nat.le_of_eq (Nat.zero_add _)) rfl rfl (by simp [oneSlot]) (Nat.le_of_ble_eq_true rfl) (Ct.mono hF.2 ?_)
          rintro o h' (⟨g3, rfl, rfl, hG⟩ | ⟨E, g, rfl, rfl, hG⟩)
          · show AW Γ l mX7_readWords (d + 1) b 92 [vR 153, vR r1, vI x2, vI x3, vR r4, vR y5, vI y6, vI (cel g r1 (x2 + y6)), vI (iDiv (cel g r1 (x2 + y6)) 10)] [] (stt g3) K
            refine aw_aload (i := 5) (by decide +kernel) rfl ?_
            refine gfX7_32 rfl (by decide +kernel) (OB.at hy5.ob (by decide)) ?_
            refine aw_astore (i := 5) (by decide +kernel) (by decide) ?_
            show AW Γ l mX7_readWords (d + 1) b 99 [vR 153, vR r1, vI x2, vI x3, vR r4, vR (RC y5 0), vI y6, vI (cel g r1 (x2 + y6)), vI (iDiv (cel g r1 (x2 + y6)) 10)] [] (stt g3) K
            refine aw_goto (off := 15) (tgt := 114) (by decide +kernel) (by decide) ?_
            refine aw_iinc (i := 6) (n := 1) (by decide +kernel) rfl (by decide) ?_
            show AW Γ l mX7_readWords (d + 1) b 117 [vR 153, vR r1, vI x2, vI x3, vR r4, vR (RC y5 0), vI (y6 + 1), vI (cel g r1 (x2 + y6)), vI (iDiv (cel g r1 (x2 + y6)) 10)] [] (stt g3) K
            refine aw_goto (off := -103) (tgt := 14) (by decide +kernel) (by decide) ?_
            exact hG
          · exact hG
    · have hF := hF.2 hc
      refine aw_aload (i := 5) (by decide +kernel) rfl ?_
      refine gfX7_29 rfl (by decide +kernel) (OB.at hy5.ob (by decide)) ?_
      refine aw_ifnull (off := 18) (tgt := 67) (by decide +kernel) (by decide) (fun hc => ?_) (fun hc => ?_)
      · have hF := hF.1 hc
        refine aw_iload (i := 8) (by decide +kernel) rfl ?_
        refine aw_bipush (n := 9) (by decide +kernel) (by decide +kernel) ?_
        refine ax_icmp_ne (off := 31) (tgt := 102) (x' := wr (iDiv (cel g r1 (x2 + y6)) 10)) (y' := 9) (by decide +kernel) (by decide) rfl (by decide +kernel) (fun hc => ?_) (fun hc => ?_)
        · have hF := hF.1 hc
          refine aw_aload (i := 5) (by decide +kernel) rfl ?_
          refine aw_iload (i := 8) (by decide +kernel) rfl ?_
          refine aw_iload (i := 7) (by decide +kernel) rfl ?_
          refine aw_bipush (n := 10) (by decide +kernel) (by decide +kernel) ?_
          refine aw_irem (by decide +kernel) (by decide +kernel) ?_
          refine aw_callV (y := yX0_take) (M2 := mX0_take) (as := [vI (iDiv (cel g r1 (x2 + y6)) 10), vI (iRem (cel g r1 (x2 + y6)) 10)]) (S := []) (t := y5) (d2 := d) (b2 := 0) (b3 := b) cwX0_take mlX7_65 imX0_take seX0_take (by decide +kernel) rfl (ci := 0) rfl (OB.at hy5.ob (by decide)) (Nat.le_refl _) (Nat.le_of_eq (Nat.zero_add _)) rfl rfl (by simp [oneSlot]) (Nat.le_of_ble_eq_true rfl) (Ct.mono hF ?_)
          rintro o h' (⟨g4, rfl, rfl, hG⟩ | ⟨E, g, rfl, rfl, hG⟩)
          · show AW Γ l mX7_readWords (d + 1) b 114 [vR 153, vR r1, vI x2, vI x3, vR r4, vR y5, vI y6, vI (cel g r1 (x2 + y6)), vI (iDiv (cel g r1 (x2 + y6)) 10)] [] (stt g4) K
            refine aw_iinc (i := 6) (n := 1) (by decide +kernel) rfl (by decide) ?_
            show AW Γ l mX7_readWords (d + 1) b 117 [vR 153, vR r1, vI x2, vI x3, vR r4, vR y5, vI (y6 + 1), vI (cel g r1 (x2 + y6)), vI (iDiv (cel g r1 (x2 + y6)) 10)] [] (stt g4) K
            refine aw_goto (off := -103) (tgt := 14) (by decide +kernel) (by decide) ?_
            exact hG
          · exact hG
        · have hF := hF.2 hc
          refine aw_aload (i := 5) (by decide +kernel) rfl ?_
          refine gfX7_32 rfl (by decide +kernel) (OB.at hy5.ob (by decide)) ?_
          refine aw_ifnull (off := 23) (tgt := 102) (by decide +kernel) (by decide) (fun hc => ?_) (fun hc => ?_)
          · have hF := hF.1 hc
            refine aw_aload (i := 5) (by decide +kernel) rfl ?_
            refine aw_iload (i := 8) (by decide +kernel) rfl ?_
            refine aw_iload (i := 7) (by decide +kernel) rfl ?_
            refine aw_bipush (n := 10) (by decide +kernel) (by decide +kernel) ?_
            refine aw_irem (by decide +kernel) (by decide +kernel) ?_
            refine aw_callV (y := yX0_take) (M2 := mX0_take) (as := [vI (iDiv (cel g r1 (x2 + y6)) 10), vI (iRem (cel g r1 (x2 + y6)) 10)]) (S := []) (t := y5) (d2 := d) (b2 := 0) (b3 := b) cwX0_take mlX7_65 imX0_take seX0_take (by decide +kernel) rfl (ci := 0) rfl (OB.at hy5.ob (by decide)) (Nat.le_refl _) (Nat.le_of_eq (Nat.zero_add _)) rfl rfl (by simp [oneSlot]) (Nat.le_of_ble_eq_true rfl) (Ct.mono hF ?_)
            rintro o h' (⟨g5, rfl, rfl, hG⟩ | ⟨E, g, rfl, rfl, hG⟩)
            · show AW Γ l mX7_readWords (d + 1) b 114 [vR 153, vR r1, vI x2, vI x3, vR r4, vR y5, vI y6, vI (cel g r1 (x2 + y6)), vI (iDiv (cel g r1 (x2 + y6)) 10)] [] (stt g5) K
              refine aw_iinc (i := 6) (n := 1) (by decide +kernel) rfl (by decide) ?_
              show AW Γ l mX7_readWords (d + 1) b 117 [vR 153, vR r1, vI x2, vI x3, vR r4, vR y5, vI (y6 + 1), vI (cel g r1 (x2 + y6)), vI (iDiv (cel g r1 (x2 + y6)) 10)] [] (stt g5) K
              refine aw_goto (off := -103) (tgt := 14) (by decide +kernel) (by decide) ?_
              exact hG
            · exact hG
          · have hF := hF.2 hc
            refine aw_aload (i := 5) (by decide +kernel) rfl ?_
            refine gfX7_32 rfl (by decide +kernel) (OB.at hy5.ob (by decide)) ?_
            refine aw_aload (i := 5) (by decide +kernel) rfl ?_
            refine aw_callV (y := yX0_lay) (M2 := mX0_lay) (as := [vR y5]) (S := []) (t := (RC y5 0)) (d2 := d) (b2 := 0) (b3 := b) cwX0_lay mlX7_61 imX0_lay seX0_lay (by decide +kernel) rfl (ci := 0) rfl (OB.at (hF.1).ob (by decide)) (Nat.le_refl _) (Nat.le_of_eq (Nat.zero_add _)) rfl rfl (by simp [oneSlot]) (Nat.le_of_ble_eq_true rfl) (Ct.mono hF.2 ?_)
            rintro o h' (⟨g6, rfl, rfl, hG⟩ | ⟨E, g, rfl, rfl, hG⟩)
            · show AW Γ l mX7_readWords (d + 1) b 92 [vR 153, vR r1, vI x2, vI x3, vR r4, vR y5, vI y6, vI (cel g r1 (x2 + y6)), vI (iDiv (cel g r1 (x2 + y6)) 10)] [] (stt g6) K
              refine aw_aload (i := 5) (by decide +kernel) rfl ?_
              refine gfX7_32 rfl (by decide +kernel) (OB.at hy5.ob (by decide)) ?_
              refine aw_astore (i := 5) (by decide +kernel) (by decide) ?_
              show AW Γ l mX7_readWords (d + 1) b 99 [vR 153, vR r1, vI x2, vI x3, vR r4, vR (RC y5 0), vI y6, vI (cel g r1 (x2 + y6)), vI (iDiv (cel g r1 (x2 + y6)) 10)] [] (stt g6) K
              refine aw_goto (off := 15) (tgt := 114) (by decide +kernel) (by decide) ?_
              refine aw_iinc (i := 6) (n := 1) (by decide +kernel) rfl (by decide) ?_
              show AW Γ l mX7_readWords (d + 1) b 117 [vR 153, vR r1, vI x2, vI x3, vR r4, vR (RC y5 0), vI (y6 + 1), vI (cel g r1 (x2 + y6)), vI (iDiv (cel g r1 (x2 + y6)) 10)] [] (stt g6) K
              refine aw_goto (off := -103) (tgt := 14) (by decide +kernel) (by decide) ?_
              exact hG
            · exact hG
      · have hF := hF.2 hc
        refine aw_aload (i := 5) (by decide +kernel) rfl ?_
        refine gfX7_29 rfl (by decide +kernel) (OB.at hy5.ob (by decide)) ?_
        refine aw_astore (i := 5) (by decide +kernel) (by decide) ?_
        show AW Γ l mX7_readWords (d + 1) b 59 [vR 153, vR r1, vI x2, vI x3, vR r4, vR (RC y5 1), vI y6, vI (cel g r1 (x2 + y6)), vI (iDiv (cel g r1 (x2 + y6)) 10)] [] (stt g) K
        refine aw_aload (i := 5) (by decide +kernel) rfl ?_
        refine aw_callV (y := yX0_clear) (M2 := mX0_clear) (as := []) (S := []) (t := (RC y5 1)) (d2 := d) (b2 := 0) (b3 := b) cwX0_clear mlX7_58 imX0_clear seX0_clear (by decide +kernel) rfl (ci := 0) rfl (OB.at (hF.1).ob (by decide)) (Nat.le_refl _) (Nat.le_of_eq (Nat.zero_add _)) rfl rfl (by simp [oneSlot]) (Nat.le_of_ble_eq_true rfl) (Ct.mono hF.2 ?_)
        rintro o h' (⟨g7, rfl, rfl, hG⟩ | ⟨E, g, rfl, rfl, hG⟩)
        · show AW Γ l mX7_readWords (d + 1) b 64 [vR 153, vR r1, vI x2, vI x3, vR r4, vR (RC y5 1), vI y6, vI (cel g r1 (x2 + y6)), vI (iDiv (cel g r1 (x2 + y6)) 10)] [] (stt g7) K
          refine aw_goto (off := 50) (tgt := 114) (by decide +kernel) (by decide) ?_
          refine aw_iinc (i := 6) (n := 1) (by decide +kernel) rfl (by decide) ?_
          show AW Γ l mX7_readWords (d + 1) b 117 [vR 153, vR r1, vI x2, vI x3, vR r4, vR (RC y5 1), vI (y6 + 1), vI (cel g r1 (x2 + y6)), vI (iDiv (cel g r1 (x2 + y6)) 10)] [] (stt g7) K
          refine aw_goto (off := -103) (tgt := 14) (by decide +kernel) (by decide) ?_
          exact hG
        · exact hG
set_option maxHeartbeats 1000000 in
theorem wpX7_readWords_123 {Γ : Cfg} {l : Launch} {d b : Nat} {g : GG} {K : Ou → HP → Prop} {r1 : Int} (hr1 : IA r1) {x2 : Int} {x3 : Int} {r4 : Int} (hr4 : IA r4) {y5 : Int} (hy5 : CU y5) {y6 : Int} (hF : (4 ≤ wr y6 → K (.inl vU) (stt g)) ∧ (¬ (4 ≤ wr y6) → (RC y5 0 = 0 → K (.inl vU) (stt g)) ∧ (¬ (RC y5 0 = 0) → (¬ wr (cel g r4 y6) = 2 → (wr (cel g r4 y6) = 0 → AW Γ l mX7_readWords (d + 1) b 123 [vR 153, vR r1, vI x2, vI x3, vR r4, vR (RC y5 0), vI (y6 + 1), vI (cel g r4 y6), vU] [] (stt g) K) ∧ (¬ (wr (cel g r4 y6) = 0) → (CU (RC y5 0)) ∧ (Ct Γ l d 0 yX0_lay mX0_lay [vR (RC y5 0), vR y5] (stt g) (bV (fun g1 => AW Γ l mX7_readWords (d + 1) b 123 [vR 153, vR r1, vI x2, vI x3, vR r4, vR (RC y5 0), vI (y6 + 1), vI (cel g r4 y6), vU] [] (stt g1) K) K)))) ∧ (¬ (¬ wr (cel g r4 y6) = 2) → (wr (cel g r4 y6) = 0 → AW Γ l mX7_readWords (d + 1) b 123 [vR 153, vR r1, vI x2, vI x3, vR r4, vR (RC y5 0), vI (y6 + 1), vI (cel g r4 y6), vU] [] (stt (upd2 g y5 7 (1 - (g y5 7)))) K) ∧ (¬ (wr (cel g r4 y6) = 0) → (CU (RC y5 0)) ∧ (Ct Γ l d 0 yX0_lay mX0_lay [vR (RC y5 0), vR y5] (stt (upd2 g y5 7 (1 - (g y5 7)))) (bV (fun g2 => AW Γ l mX7_readWords (d + 1) b 123 [vR 153, vR r1, vI x2, vI x3, vR r4, vR (RC y5 0), vI (y6 + 1), vI (cel g r4 y6), vU] [] (stt g2) K) K))))))) : AW Γ l mX7_readWords (d + 1) b 123 [vR 153, vR r1, vI x2, vI x3, vR r4, vR y5, vI y6, vU, vU] [] (stt g) K := by
  refine aw_iload (i := 6) (by decide +kernel) rfl ?_
  refine aw_iconst (n := 4) (by decide +kernel) ?_
  refine ax_icmp_ge (off := 66) (tgt := 192) (x' := wr y6) (y' := 4) (by decide +kernel) (by decide) rfl (by decide +kernel) (fun hc => ?_) (fun hc => ?_)
  · have hF := hF.1 hc
    exact aw_vret (by decide +kernel) rfl hF
  · have hF := hF.2 hc
    refine aw_aload (i := 5) (by decide +kernel) rfl ?_
    refine gfX7_32 rfl (by decide +kernel) (OB.at hy5.ob (by decide)) ?_
    refine aw_ifnull (off := 58) (tgt := 192) (by decide +kernel) (by decide) (fun hc => ?_) (fun hc => ?_)
    · have hF := hF.1 hc
      exact aw_vret (by decide +kernel) rfl hF
    · have hF := hF.2 hc
      refine aw_aload (i := 4) (by decide +kernel) rfl ?_
      refine aw_iload (i := 6) (by decide +kernel) rfl ?_
      refine aw_callSN (host := "HalfOaths") (y := yX11_cell) (M2 := mX11_cell) (as := [vR r4, vI y6]) (S := []) (d2 := d) (b2 := 0) (b3 := b) cwX11_cell mlX7_50 stX11_cell (by decide +kernel) rfl (Nat.le_refl _) (Nat.le_of_eq (Nat.zero_add _)) rfl rfl (by simp [oneSlot]) (Nat.le_of_ble_eq_true rfl) (c_cell hr4 ?_)
      show AW Γ l mX7_readWords (d + 1) b 144 [vR 153, vR r1, vI x2, vI x3, vR r4, vR y5, vI y6, vU, vU] [vI (cel g r4 y6)] (stt g) K
      refine aw_istore (i := 7) (by decide +kernel) (by decide) ?_
      show AW Γ l mX7_readWords (d + 1) b 146 [vR 153, vR r1, vI x2, vI x3, vR r4, vR y5, vI y6, vI (cel g r4 y6), vU] [] (stt g) K
      refine aw_iload (i := 7) (by decide +kernel) rfl ?_
      refine aw_iconst (n := 2) (by decide +kernel) ?_
      refine ax_icmp_ne (off := 15) (tgt := 164) (x' := wr (cel g r4 y6)) (y' := 2) (by decide +kernel) (by decide) rfl (by decide +kernel) (fun hc => ?_) (fun hc => ?_)
      · have hF := hF.1 hc
        refine aw_iload (i := 7) (by decide +kernel) rfl ?_
        refine ax_if_eq (off := 13) (tgt := 179) (x' := wr (cel g r4 y6)) (by decide +kernel) (by decide) rfl (fun hc => ?_) (fun hc => ?_)
        · have hF := hF.1 hc
          refine aw_aload (i := 5) (by decide +kernel) rfl ?_
          refine gfX7_32 rfl (by decide +kernel) (OB.at hy5.ob (by decide)) ?_
          refine aw_astore (i := 5) (by decide +kernel) (by decide) ?_
          show AW Γ l mX7_readWords (d + 1) b 186 [vR 153, vR r1, vI x2, vI x3, vR r4, vR (RC y5 0), vI y6, vI (cel g r4 y6), vU] [] (stt g) K
          refine aw_iinc (i := 6) (n := 1) (by decide +kernel) rfl (by decide) ?_
          show AW Γ l mX7_readWords (d + 1) b 189 [vR 153, vR r1, vI x2, vI x3, vR r4, vR (RC y5 0), vI (y6 + 1), vI (cel g r4 y6), vU] [] (stt g) K
          refine aw_goto (off := -66) (tgt := 123) (by decide +kernel) (by decide) ?_
          exact hF
        · have hF := hF.2 hc
          refine aw_aload (i := 5) (by decide +kernel) rfl ?_
          refine gfX7_32 rfl (by decide +kernel) (OB.at hy5.ob (by decide)) ?_
          refine aw_aload (i := 5) (by decide +kernel) rfl ?_
          refine aw_callV (y := yX0_lay) (M2 := mX0_lay) (as := [vR y5]) (S := []) (t := (RC y5 0)) (d2 := d) (b2 := 0) (b3 := b) cwX0_lay mlX7_61 imX0_lay seX0_lay (by decide +kernel) rfl (ci := 0) rfl (OB.at (hF.1).ob (by decide)) (Nat.le_refl _) (Nat.le_of_eq (Nat.zero_add _)) rfl rfl (by simp [oneSlot]) (Nat.le_of_ble_eq_true rfl) (Ct.mono hF.2 ?_)
          rintro o h' (⟨g1, rfl, rfl, hG⟩ | ⟨E, g, rfl, rfl, hG⟩)
          · show AW Γ l mX7_readWords (d + 1) b 179 [vR 153, vR r1, vI x2, vI x3, vR r4, vR y5, vI y6, vI (cel g r4 y6), vU] [] (stt g1) K
            refine aw_aload (i := 5) (by decide +kernel) rfl ?_
            refine gfX7_32 rfl (by decide +kernel) (OB.at hy5.ob (by decide)) ?_
            refine aw_astore (i := 5) (by decide +kernel) (by decide) ?_
            show AW Γ l mX7_readWords (d + 1) b 186 [vR 153, vR r1, vI x2, vI x3, vR r4, vR (RC y5 0), vI y6, vI (cel g r4 y6), vU] [] (stt g1) K
            refine aw_iinc (i := 6) (n := 1) (by decide +kernel) rfl (by decide) ?_
            show AW Γ l mX7_readWords (d + 1) b 189 [vR 153, vR r1, vI x2, vI x3, vR r4, vR (RC y5 0), vI (y6 + 1), vI (cel g r4 y6), vU] [] (stt g1) K
            refine aw_goto (off := -66) (tgt := 123) (by decide +kernel) (by decide) ?_
            exact hG
          · exact hG
      · have hF := hF.2 hc
        refine aw_aload (i := 5) (by decide +kernel) rfl ?_
        refine aw_iconst (n := 1) (by decide +kernel) ?_
        refine aw_aload (i := 5) (by decide +kernel) rfl ?_
        refine gfX7_69 rfl (by decide +kernel) (OB.at hy5.ob (by decide)) ?_
        refine aw_isub (by decide +kernel) ?_
        refine pfX7_69 rfl (by decide +kernel) (OB.at hy5.ob (by decide)) ?_
        show AW Γ l mX7_readWords (d + 1) b 164 [vR 153, vR r1, vI x2, vI x3, vR r4, vR y5, vI y6, vI (cel g r4 y6), vU] [] (stt (upd2 g y5 7 (1 - (g y5 7)))) K
        refine aw_iload (i := 7) (by decide +kernel) rfl ?_
        refine ax_if_eq (off := 13) (tgt := 179) (x' := wr (cel g r4 y6)) (by decide +kernel) (by decide) rfl (fun hc => ?_) (fun hc => ?_)
        · have hF := hF.1 hc
          refine aw_aload (i := 5) (by decide +kernel) rfl ?_
          refine gfX7_32 rfl (by decide +kernel) (OB.at hy5.ob (by decide)) ?_
          refine aw_astore (i := 5) (by decide +kernel) (by decide) ?_
          show AW Γ l mX7_readWords (d + 1) b 186 [vR 153, vR r1, vI x2, vI x3, vR r4, vR (RC y5 0), vI y6, vI (cel g r4 y6), vU] [] (stt (upd2 g y5 7 (1 - (g y5 7)))) K
          refine aw_iinc (i := 6) (n := 1) (by decide +kernel) rfl (by decide) ?_
          show AW Γ l mX7_readWords (d + 1) b 189 [vR 153, vR r1, vI x2, vI x3, vR r4, vR (RC y5 0), vI (y6 + 1), vI (cel g r4 y6), vU] [] (stt (upd2 g y5 7 (1 - (g y5 7)))) K
          refine aw_goto (off := -66) (tgt := 123) (by decide +kernel) (by decide) ?_
          exact hF
        · have hF := hF.2 hc
          refine aw_aload (i := 5) (by decide +kernel) rfl ?_
          refine gfX7_32 rfl (by decide +kernel) (OB.at hy5.ob (by decide)) ?_
          refine aw_aload (i := 5) (by decide +kernel) rfl ?_
          refine aw_callV (y := yX0_lay) (M2 := mX0_lay) (as := [vR y5]) (S := []) (t := (RC y5 0)) (d2 := d) (b2 := 0) (b3 := b) cwX0_lay mlX7_61 imX0_lay seX0_lay (by decide +kernel) rfl (ci := 0) rfl (OB.at (hF.1).ob (by decide)) (Nat.le_refl _) (Nat.le_of_eq (Nat.zero_add _)) rfl rfl (by simp [oneSlot]) (Nat.le_of_ble_eq_true rfl) (Ct.mono hF.2 ?_)
          rintro o h' (⟨g2, rfl, rfl, hG⟩ | ⟨E, g, rfl, rfl, hG⟩)
          · show AW Γ l mX7_readWords (d + 1) b 179 [vR 153, vR r1, vI x2, vI x3, vR r4, vR y5, vI y6, vI (cel g r4 y6), vU] [] (stt g2) K
            refine aw_aload (i := 5) (by decide +kernel) rfl ?_
            refine gfX7_32 rfl (by decide +kernel) (OB.at hy5.ob (by decide)) ?_
            refine aw_astore (i := 5) (by decide +kernel) (by decide) ?_
            show AW Γ l mX7_readWords (d + 1) b 186 [vR 153, vR r1, vI x2, vI x3, vR r4, vR (RC y5 0), vI y6, vI (cel g r4 y6), vU] [] (stt g2) K
            refine aw_iinc (i := 6) (n := 1) (by decide +kernel) rfl (by decide) ?_
            show AW Γ l mX7_readWords (d + 1) b 189 [vR 153, vR r1, vI x2, vI x3, vR r4, vR (RC y5 0), vI (y6 + 1), vI (cel g r4 y6), vU] [] (stt g2) K
            refine aw_goto (off := -66) (tgt := 123) (by decide +kernel) (by decide) ?_
            exact hG
          · exact hG

set_option maxHeartbeats 1000000 in
theorem wpX7_judge {Γ : Cfg} {l : Launch} {d b : Nat} {g : GG} {K : Ou → HP → Prop} {x1 : Int} {x2 : Int} {x3 : Int} (hF : (∀ g1 : GG, g1 = puc (puc g 155 0 x1) 155 1 ((puc g 155 0 x1) 154 2) → (∀ g2 : GG, g2 = puc (puc g1 155 2 (g1 154 3)) 155 3 (iBC ((puc g1 155 2 (g1 154 3)) 154 4)) → (∀ g3 : GG, g3 = puc (puc g2 155 4 (g2 154 5)) 155 5 (iBC ((puc g2 155 4 (g2 154 5)) 154 6)) → (wr x3 = 0 → AW Γ l mX7_judge (d + 1) b 115 [vR 153, vI x1, vI x2, vI x3, vU] [vI 0, vI 7, vR 155] (stt (puc g3 155 6 x2)) K) ∧ (¬ (wr x3 = 0) → AW Γ l mX7_judge (d + 1) b 115 [vR 153, vI x1, vI x2, vI x3, vU] [vI 1, vI 7, vR 155] (stt (puc g3 155 6 x2)) K))))) : Ct Γ l (d + 1) b yX7_judge mX7_judge [vR 153, vI x1, vI x2, vI x3] (stt g) K := by
  refine Ct.enter (L := [vR 153, vI x1, vI x2, vI x3, vU]) rfl rfl rfl (by decide +kernel) (by simp [oneSlot]) (Nat.le_of_ble_eq_true rfl) rfl ?_
  refine aw_aload_n (k' := 0) (by decide +kernel) rfl ?_
  refine gfX7_22 rfl (by decide +kernel) (OB.at (ci := 6) (show shp 153 = (16, 0) by decide +kernel) (by decide)) ?_
  refine AW.topR (show RC 153 2 = 155 by decide +kernel) ?_
  refine aw_iconst (n := 0) (by decide +kernel) ?_
  refine aw_iload_n (k' := 1) (by decide +kernel) rfl ?_
  refine aw_callSN (host := "HalfOaths") (y := yX11_put) (M2 := mX11_put) (as := [vR 155, vI 0, vI x1]) (S := []) (d2 := d) (b2 := 0) (b3 := b) cwX11_put mlX7_73 stX11_put (by decide +kernel) rfl (Nat.le_refl _) (Nat.le_of_eq (Nat.zero_add _)) rfl rfl (by simp [oneSlot]) (Nat.le_of_ble_eq_true rfl) (c_put (show (shp 155).1 = 0 by decide +kernel) ?_)
  show AW Γ l mX7_judge (d + 1) b 9 [vR 153, vI x1, vI x2, vI x3, vU] [] (stt (puc g 155 0 x1)) K
  refine aw_aload_n (k' := 0) (by decide +kernel) rfl ?_
  refine gfX7_22 rfl (by decide +kernel) (OB.at (ci := 6) (show shp 153 = (16, 0) by decide +kernel) (by decide)) ?_
  refine AW.topR (show RC 153 2 = 155 by decide +kernel) ?_
  refine aw_iconst (n := 1) (by decide +kernel) ?_
  refine aw_aload_n (k' := 0) (by decide +kernel) rfl ?_
  refine gfX7_18 rfl (by decide +kernel) (OB.at (ci := 6) (show shp 153 = (16, 0) by decide +kernel) (by decide)) ?_
  refine AW.topR (show RC 153 1 = 154 by decide +kernel) ?_
  refine gfX7_77 rfl (by decide +kernel) (OB.at (ci := 0) (show shp 154 = (10, 0) by decide +kernel) (by decide)) ?_
  refine aw_callSN (host := "HalfOaths") (y := yX11_put) (M2 := mX11_put) (as := [vR 155, vI 1, vI ((puc g 155 0 x1) 154 2)]) (S := []) (d2 := d) (b2 := 0) (b3 := b) cwX11_put mlX7_73 stX11_put (by decide +kernel) rfl (Nat.le_refl _) (Nat.le_of_eq (Nat.zero_add _)) rfl rfl (by simp [oneSlot]) (Nat.le_of_ble_eq_true rfl) (c_put (show (shp 155).1 = 0 by decide +kernel) ?_)
  show AW Γ l mX7_judge (d + 1) b 24 [vR 153, vI x1, vI x2, vI x3, vU] [] (stt (puc (puc g 155 0 x1) 155 1 ((puc g 155 0 x1) 154 2))) K
  show AW Γ l mX7_judge (d + 1) b 24 [vR 153, vI x1, vI x2, vI x3, vU] [] (stt (puc (puc g 155 0 x1) 155 1 ((puc g 155 0 x1) 154 2))) K
  generalize eg1 : puc (puc g 155 0 x1) 155 1 ((puc g 155 0 x1) 154 2) = g1
  replace hF := hF g1 eg1.symm
  refine aw_aload_n (k' := 0) (by decide +kernel) rfl ?_
  refine gfX7_22 rfl (by decide +kernel) (OB.at (ci := 6) (show shp 153 = (16, 0) by decide +kernel) (by decide)) ?_
  refine AW.topR (show RC 153 2 = 155 by decide +kernel) ?_
  refine aw_iconst (n := 2) (by decide +kernel) ?_
  refine aw_aload_n (k' := 0) (by decide +kernel) rfl ?_
  refine gfX7_18 rfl (by decide +kernel) (OB.at (ci := 6) (show shp 153 = (16, 0) by decide +kernel) (by decide)) ?_
  refine AW.topR (show RC 153 1 = 154 by decide +kernel) ?_
  refine gfX7_80 rfl (by decide +kernel) (OB.at (ci := 0) (show shp 154 = (10, 0) by decide +kernel) (by decide)) ?_
  refine aw_callSN (host := "HalfOaths") (y := yX11_put) (M2 := mX11_put) (as := [vR 155, vI 2, vI (g1 154 3)]) (S := []) (d2 := d) (b2 := 0) (b3 := b) cwX11_put mlX7_73 stX11_put (by decide +kernel) rfl (Nat.le_refl _) (Nat.le_of_eq (Nat.zero_add _)) rfl rfl (by simp [oneSlot]) (Nat.le_of_ble_eq_true rfl) (c_put (show (shp 155).1 = 0 by decide +kernel) ?_)
  show AW Γ l mX7_judge (d + 1) b 39 [vR 153, vI x1, vI x2, vI x3, vU] [] (stt (puc g1 155 2 (g1 154 3))) K
  refine aw_aload_n (k' := 0) (by decide +kernel) rfl ?_
  refine gfX7_22 rfl (by decide +kernel) (OB.at (ci := 6) (show shp 153 = (16, 0) by decide +kernel) (by decide)) ?_
  refine AW.topR (show RC 153 2 = 155 by decide +kernel) ?_
  refine aw_iconst (n := 3) (by decide +kernel) ?_
  refine aw_aload_n (k' := 0) (by decide +kernel) rfl ?_
  refine gfX7_18 rfl (by decide +kernel) (OB.at (ci := 6) (show shp 153 = (16, 0) by decide +kernel) (by decide)) ?_
  refine AW.topR (show RC 153 1 = 154 by decide +kernel) ?_
  refine gfX7_83 rfl (by decide +kernel) (OB.at (ci := 0) (show shp 154 = (10, 0) by decide +kernel) (by decide)) ?_
  refine aw_callS (y := yJ6_bitCount_0f7a4) (M2 := mJ6_bitCount_0f7a4) (as := [vI ((puc g1 155 2 (g1 154 3)) 154 4)]) (S := [vI 3, vR 155]) (d2 := d) (b2 := 0) (b3 := b) cwJ6_bitCount_0f7a4 mlX7_86 stJ6_bitCount_0f7a4 (by decide +kernel) rfl (Nat.le_refl _) (Nat.le_of_eq (Nat.zero_add _)) rfl rfl (by simp [oneSlot]) (Nat.le_of_ble_eq_true rfl) (c_bitCount ?_)
  show AW Γ l mX7_judge (d + 1) b 54 [vR 153, vI x1, vI x2, vI x3, vU] [vI (iBC ((puc g1 155 2 (g1 154 3)) 154 4)), vI 3, vR 155] (stt (puc g1 155 2 (g1 154 3))) K
  refine aw_callSN (host := "HalfOaths") (y := yX11_put) (M2 := mX11_put) (as := [vR 155, vI 3, vI (iBC ((puc g1 155 2 (g1 154 3)) 154 4))]) (S := []) (d2 := d) (b2 := 0) (b3 := b) cwX11_put mlX7_73 stX11_put (by decide +kernel) rfl (Nat.le_refl _) (Nat.le_of_eq (Nat.zero_add _)) rfl rfl (by simp [oneSlot]) (Nat.le_of_ble_eq_true rfl) (c_put (show (shp 155).1 = 0 by decide +kernel) ?_)
  show AW Γ l mX7_judge (d + 1) b 57 [vR 153, vI x1, vI x2, vI x3, vU] [] (stt (puc (puc g1 155 2 (g1 154 3)) 155 3 (iBC ((puc g1 155 2 (g1 154 3)) 154 4)))) K
  show AW Γ l mX7_judge (d + 1) b 57 [vR 153, vI x1, vI x2, vI x3, vU] [] (stt (puc (puc g1 155 2 (g1 154 3)) 155 3 (iBC ((puc g1 155 2 (g1 154 3)) 154 4)))) K
  generalize eg2 : puc (puc g1 155 2 (g1 154 3)) 155 3 (iBC ((puc g1 155 2 (g1 154 3)) 154 4)) = g2
  replace hF := hF g2 eg2.symm
  refine aw_aload_n (k' := 0) (by decide +kernel) rfl ?_
  refine gfX7_22 rfl (by decide +kernel) (OB.at (ci := 6) (show shp 153 = (16, 0) by decide +kernel) (by decide)) ?_
  refine AW.topR (show RC 153 2 = 155 by decide +kernel) ?_
  refine aw_iconst (n := 4) (by decide +kernel) ?_
  refine aw_aload_n (k' := 0) (by decide +kernel) rfl ?_
  refine gfX7_18 rfl (by decide +kernel) (OB.at (ci := 6) (show shp 153 = (16, 0) by decide +kernel) (by decide)) ?_
  refine AW.topR (show RC 153 1 = 154 by decide +kernel) ?_
  refine gfX7_92 rfl (by decide +kernel) (OB.at (ci := 0) (show shp 154 = (10, 0) by decide +kernel) (by decide)) ?_
  refine aw_callSN (host := "HalfOaths") (y := yX11_put) (M2 := mX11_put) (as := [vR 155, vI 4, vI (g2 154 5)]) (S := []) (d2 := d) (b2 := 0) (b3 := b) cwX11_put mlX7_73 stX11_put (by decide +kernel) rfl (Nat.le_refl _) (Nat.le_of_eq (Nat.zero_add _)) rfl rfl (by simp [oneSlot]) (Nat.le_of_ble_eq_true rfl) (c_put (show (shp 155).1 = 0 by decide +kernel) ?_)
  show AW Γ l mX7_judge (d + 1) b 72 [vR 153, vI x1, vI x2, vI x3, vU] [] (stt (puc g2 155 4 (g2 154 5))) K
  refine aw_aload_n (k' := 0) (by decide +kernel) rfl ?_
  refine gfX7_22 rfl (by decide +kernel) (OB.at (ci := 6) (show shp 153 = (16, 0) by decide +kernel) (by decide)) ?_
  refine AW.topR (show RC 153 2 = 155 by decide +kernel) ?_
  refine aw_iconst (n := 5) (by decide +kernel) ?_
  refine aw_aload_n (k' := 0) (by decide +kernel) rfl ?_
  refine gfX7_18 rfl (by decide +kernel) (OB.at (ci := 6) (show shp 153 = (16, 0) by decide +kernel) (by decide)) ?_
  refine AW.topR (show RC 153 1 = 154 by decide +kernel) ?_
  refine gfX7_95 rfl (by decide +kernel) (OB.at (ci := 0) (show shp 154 = (10, 0) by decide +kernel) (by decide)) ?_
  refine aw_callS (y := yJ6_bitCount_0f7a4) (M2 := mJ6_bitCount_0f7a4) (as := [vI ((puc g2 155 4 (g2 154 5)) 154 6)]) (S := [vI 5, vR 155]) (d2 := d) (b2 := 0) (b3 := b) cwJ6_bitCount_0f7a4 mlX7_86 stJ6_bitCount_0f7a4 (by decide +kernel) rfl (Nat.le_refl _) (Nat.le_of_eq (Nat.zero_add _)) rfl rfl (by simp [oneSlot]) (Nat.le_of_ble_eq_true rfl) (c_bitCount ?_)
  show AW Γ l mX7_judge (d + 1) b 87 [vR 153, vI x1, vI x2, vI x3, vU] [vI (iBC ((puc g2 155 4 (g2 154 5)) 154 6)), vI 5, vR 155] (stt (puc g2 155 4 (g2 154 5))) K
  refine aw_callSN (host := "HalfOaths") (y := yX11_put) (M2 := mX11_put) (as := [vR 155, vI 5, vI (iBC ((puc g2 155 4 (g2 154 5)) 154 6))]) (S := []) (d2 := d) (b2 := 0) (b3 := b) cwX11_put mlX7_73 stX11_put (by decide +kernel) rfl (Nat.le_refl _) (Nat.le_of_eq (Nat.zero_add _)) rfl rfl (by simp [oneSlot]) (Nat.le_of_ble_eq_true rfl) (c_put (show (shp 155).1 = 0 by decide +kernel) ?_)
  show AW Γ l mX7_judge (d + 1) b 90 [vR 153, vI x1, vI x2, vI x3, vU] [] (stt (puc (puc g2 155 4 (g2 154 5)) 155 5 (iBC ((puc g2 155 4 (g2 154 5)) 154 6)))) K
  show AW Γ l mX7_judge (d + 1) b 90 [vR 153, vI x1, vI x2, vI x3, vU] [] (stt (puc (puc g2 155 4 (g2 154 5)) 155 5 (iBC ((puc g2 155 4 (g2 154 5)) 154 6)))) K
  generalize eg3 : puc (puc g2 155 4 (g2 154 5)) 155 5 (iBC ((puc g2 155 4 (g2 154 5)) 154 6)) = g3
  replace hF := hF g3 eg3.symm
  refine aw_aload_n (k' := 0) (by decide +kernel) rfl ?_
  refine gfX7_22 rfl (by decide +kernel) (OB.at (ci := 6) (show shp 153 = (16, 0) by decide +kernel) (by decide)) ?_
  refine AW.topR (show RC 153 2 = 155 by decide +kernel) ?_
  refine aw_bipush (n := 6) (by decide +kernel) (by decide +kernel) ?_
  refine aw_iload_n (k' := 2) (by decide +kernel) rfl ?_
  refine aw_callSN (host := "HalfOaths") (y := yX11_put) (M2 := mX11_put) (as := [vR 155, vI 6, vI x2]) (S := []) (d2 := d) (b2 := 0) (b3 := b) cwX11_put mlX7_73 stX11_put (by decide +kernel) rfl (Nat.le_refl _) (Nat.le_of_eq (Nat.zero_add _)) rfl rfl (by simp [oneSlot]) (Nat.le_of_ble_eq_true rfl) (c_put (show (shp 155).1 = 0 by decide +kernel) ?_)
  show AW Γ l mX7_judge (d + 1) b 100 [vR 153, vI x1, vI x2, vI x3, vU] [] (stt (puc g3 155 6 x2)) K
  refine aw_aload_n (k' := 0) (by decide +kernel) rfl ?_
  refine gfX7_22 rfl (by decide +kernel) (OB.at (ci := 6) (show shp 153 = (16, 0) by decide +kernel) (by decide)) ?_
  refine AW.topR (show RC 153 2 = 155 by decide +kernel) ?_
  refine aw_bipush (n := 7) (by decide +kernel) (by decide +kernel) ?_
  refine aw_iload_n (k' := 3) (by decide +kernel) rfl ?_
  refine ax_if_eq (off := 7) (tgt := 114) (x' := wr x3) (by decide +kernel) (by decide) rfl (fun hc => ?_) (fun hc => ?_)
  · have hF := hF.1 hc
    refine aw_iconst (n := 0) (by decide +kernel) ?_
    exact hF
  · have hF := hF.2 hc
    refine aw_iconst (n := 1) (by decide +kernel) ?_
    refine aw_goto (off := 4) (tgt := 115) (by decide +kernel) (by decide) ?_
    exact hF
set_option maxHeartbeats 1000000 in
theorem wpX7_judge_115 {Γ : Cfg} {l : Launch} {d b : Nat} {g : GG} {K : Ou → HP → Prop} {x1 : Int} {x2 : Int} {x3 : Int} {s0 : Int} {s1 : Int} (hF : (∀ g1 : GG, g1 = puc (puc g 155 s1 s0) 155 8 ((puc g 155 s1 s0) 154 7) → (¬ wr (g1 154 2) = 0 → AW Γ l mX7_judge (d + 1) b 155 [vR 153, vI x1, vI x2, vI x3, vU] [vI 0, vI 9, vR 155] (stt g1) K) ∧ (¬ (¬ wr (g1 154 2) = 0) → AW Γ l mX7_judge (d + 1) b 155 [vR 153, vI x1, vI x2, vI x3, vU] [vI 1, vI 9, vR 155] (stt g1) K))) : AW Γ l mX7_judge (d + 1) b 115 [vR 153, vI x1, vI x2, vI x3, vU] [vI s0, vI s1, vR 155] (stt g) K := by
  refine aw_callSN (host := "HalfOaths") (y := yX11_put) (M2 := mX11_put) (as := [vR 155, vI s1, vI s0]) (S := []) (d2 := d) (b2 := 0) (b3 := b) cwX11_put mlX7_73 stX11_put (by decide +kernel) rfl (Nat.le_refl _) (Nat.le_of_eq (Nat.zero_add _)) rfl rfl (by simp [oneSlot]) (Nat.le_of_ble_eq_true rfl) (c_put (show (shp 155).1 = 0 by decide +kernel) ?_)
  show AW Γ l mX7_judge (d + 1) b 118 [vR 153, vI x1, vI x2, vI x3, vU] [] (stt (puc g 155 s1 s0)) K
  refine aw_aload_n (k' := 0) (by decide +kernel) rfl ?_
  refine gfX7_22 rfl (by decide +kernel) (OB.at (ci := 6) (show shp 153 = (16, 0) by decide +kernel) (by decide)) ?_
  refine AW.topR (show RC 153 2 = 155 by decide +kernel) ?_
  refine aw_bipush (n := 8) (by decide +kernel) (by decide +kernel) ?_
  refine aw_aload_n (k' := 0) (by decide +kernel) rfl ?_
  refine gfX7_18 rfl (by decide +kernel) (OB.at (ci := 6) (show shp 153 = (16, 0) by decide +kernel) (by decide)) ?_
  refine AW.topR (show RC 153 1 = 154 by decide +kernel) ?_
  refine gfX7_69 rfl (by decide +kernel) (OB.at (ci := 0) (show shp 154 = (10, 0) by decide +kernel) (by decide)) ?_
  refine aw_callSN (host := "HalfOaths") (y := yX11_put) (M2 := mX11_put) (as := [vR 155, vI 8, vI ((puc g 155 s1 s0) 154 7)]) (S := []) (d2 := d) (b2 := 0) (b3 := b) cwX11_put mlX7_73 stX11_put (by decide +kernel) rfl (Nat.le_refl _) (Nat.le_of_eq (Nat.zero_add _)) rfl rfl (by simp [oneSlot]) (Nat.le_of_ble_eq_true rfl) (c_put (show (shp 155).1 = 0 by decide +kernel) ?_)
  show AW Γ l mX7_judge (d + 1) b 134 [vR 153, vI x1, vI x2, vI x3, vU] [] (stt (puc (puc g 155 s1 s0) 155 8 ((puc g 155 s1 s0) 154 7))) K
  show AW Γ l mX7_judge (d + 1) b 134 [vR 153, vI x1, vI x2, vI x3, vU] [] (stt (puc (puc g 155 s1 s0) 155 8 ((puc g 155 s1 s0) 154 7))) K
  generalize eg1 : puc (puc g 155 s1 s0) 155 8 ((puc g 155 s1 s0) 154 7) = g1
  replace hF := hF g1 eg1.symm
  refine aw_aload_n (k' := 0) (by decide +kernel) rfl ?_
  refine gfX7_22 rfl (by decide +kernel) (OB.at (ci := 6) (show shp 153 = (16, 0) by decide +kernel) (by decide)) ?_
  refine AW.topR (show RC 153 2 = 155 by decide +kernel) ?_
  refine aw_bipush (n := 9) (by decide +kernel) (by decide +kernel) ?_
  refine aw_aload_n (k' := 0) (by decide +kernel) rfl ?_
  refine gfX7_18 rfl (by decide +kernel) (OB.at (ci := 6) (show shp 153 = (16, 0) by decide +kernel) (by decide)) ?_
  refine AW.topR (show RC 153 1 = 154 by decide +kernel) ?_
  refine gfX7_77 rfl (by decide +kernel) (OB.at (ci := 0) (show shp 154 = (10, 0) by decide +kernel) (by decide)) ?_
  refine ax_if_ne (off := 7) (tgt := 154) (x' := wr (g1 154 2)) (by decide +kernel) (by decide) rfl (fun hc => ?_) (fun hc => ?_)
  · have hF := hF.1 hc
    refine aw_iconst (n := 0) (by decide +kernel) ?_
    exact hF
  · have hF := hF.2 hc
    refine aw_iconst (n := 1) (by decide +kernel) ?_
    refine aw_goto (off := 4) (tgt := 155) (by decide +kernel) (by decide) ?_
    exact hF
set_option maxHeartbeats 1000000 in
theorem wpX7_judge_155 {Γ : Cfg} {l : Launch} {d b : Nat} {g : GG} {K : Ou → HP → Prop} {x1 : Int} {x2 : Int} {x3 : Int} {s0 : Int} {s1 : Int} (hF : Ct Γ l d 0 yX4_judge mX4_judge [vR 35, vR 155] (stt (puc g 155 s1 s0)) (bV (fun g1 => (¬ wr (g1 154 2) = 0 → Ct Γ l d 0 yX0_base mX0_base [vR 154] (stt g1) (bI (fun v1 g2 => AW Γ l mX7_judge (d + 1) b 210 [vR 153, vI x1, vI x2, vI x3, vU] [vI (iMax 0 ((v1 + (g2 35 5)) - (g2 35 6)))] (stt g2) K) K)) ∧ (¬ (¬ wr (g1 154 2) = 0) → AW Γ l mX7_judge (d + 1) b 210 [vR 153, vI x1, vI x2, vI x3, vU] [vI 0] (stt g1) K)) K)) : AW Γ l mX7_judge (d + 1) b 155 [vR 153, vI x1, vI x2, vI x3, vU] [vI s0, vI s1, vR 155] (stt g) K := by
  refine aw_callSN (host := "HalfOaths") (y := yX11_put) (M2 := mX11_put) (as := [vR 155, vI s1, vI s0]) (S := []) (d2 := d) (b2 := 0) (b3 := b) cwX11_put mlX7_73 stX11_put (by decide +kernel) rfl (Nat.le_refl _) (Nat.le_of_eq (Nat.zero_add _)) rfl rfl (by simp [oneSlot]) (Nat.le_of_ble_eq_true rfl) (c_put (show (shp 155).1 = 0 by decide +kernel) ?_)
  show AW Γ l mX7_judge (d + 1) b 158 [vR 153, vI x1, vI x2, vI x3, vU] [] (stt (puc g 155 s1 s0)) K
  refine aw_aload_n (k' := 0) (by decide +kernel) rfl ?_
  refine gfX7_9 rfl (by decide +kernel) (OB.at (ci := 6) (show shp 153 = (16, 0) by decide +kernel) (by decide)) ?_
  refine AW.topR (show RC 153 0 = 35 by decide +kernel) ?_
  refine aw_aload_n (k' := 0) (by decide +kernel) rfl ?_
  refine gfX7_22 rfl (by decide +kernel) (OB.at (ci := 6) (show shp 153 = (16, 0) by decide +kernel) (by decide)) ?_
  refine AW.topR (show RC 153 2 = 155 by decide +kernel) ?_
  refine aw_callV (y := yX4_judge) (M2 := mX4_judge) (as := [vR 155]) (S := []) (t := 35) (d2 := d) (b2 := 0) (b3 := b) cwX4_judge mlX7_98 imX4_judge seX4_judge (by decide +kernel) rfl (ci := 3) rfl (OB.at (ci := 3) (show shp 35 = (13, 0) by decide +kernel) (by decide)) (Nat.le_refl _) (Nat.le_of_eq (Nat.zero_add _)) rfl rfl (by simp [oneSlot]) (Nat.le_of_ble_eq_true rfl) (Ct.mono hF ?_)
  rintro o h' (⟨g1, rfl, rfl, hG⟩ | ⟨E, g, rfl, rfl, hG⟩)
  · show AW Γ l mX7_judge (d + 1) b 169 [vR 153, vI x1, vI x2, vI x3, vU] [] (stt g1) K
    refine aw_aload_n (k' := 0) (by decide +kernel) rfl ?_
    refine gfX7_18 rfl (by decide +kernel) (OB.at (ci := 6) (show shp 153 = (16, 0) by decide +kernel) (by decide)) ?_
    refine AW.topR (show RC 153 1 = 154 by decide +kernel) ?_
    refine gfX7_77 rfl (by decide +kernel) (OB.at (ci := 0) (show shp 154 = (10, 0) by decide +kernel) (by decide)) ?_
    refine ax_if_ne (off := 7) (tgt := 183) (x' := wr (g1 154 2)) (by decide +kernel) (by decide) rfl (fun hc => ?_) (fun hc => ?_)
    · have hG := hG.1 hc
      refine aw_iconst (n := 0) (by decide +kernel) ?_
      refine aw_aload_n (k' := 0) (by decide +kernel) rfl ?_
      refine gfX7_18 rfl (by decide +kernel) (OB.at (ci := 6) (show shp 153 = (16, 0) by decide +kernel) (by decide)) ?_
      refine AW.topR (show RC 153 1 = 154 by decide +kernel) ?_
      refine aw_callV (y := yX0_base) (M2 := mX0_base) (as := []) (S := [vI 0]) (t := 154) (d2 := d) (b2 := 0) (b3 := b) cwX0_base mlX7_103 imX0_base seX0_base (by decide +kernel) rfl (ci := 0) rfl (OB.at (ci := 0) (show shp 154 = (10, 0) by decide +kernel) (by decide)) (Nat.le_refl _) (Nat.le_of_eq (Nat.zero_add _)) rfl rfl (by simp [oneSlot]) (Nat.le_of_ble_eq_true rfl) (Ct.mono hG ?_)
      rintro o h' (⟨v1, g2, rfl, rfl, hG⟩ | ⟨E, g, rfl, rfl, hG⟩)
      · show AW Γ l mX7_judge (d + 1) b 191 [vR 153, vI x1, vI x2, vI x3, vU] [vI v1, vI 0] (stt g2) K
        refine aw_aload_n (k' := 0) (by decide +kernel) rfl ?_
        refine gfX7_9 rfl (by decide +kernel) (OB.at (ci := 6) (show shp 153 = (16, 0) by decide +kernel) (by decide)) ?_
        refine AW.topR (show RC 153 0 = 35 by decide +kernel) ?_
        refine gfX7_107 rfl (by decide +kernel) (OB.at (ci := 3) (show shp 35 = (13, 0) by decide +kernel) (by decide)) ?_
        refine aw_iadd (by decide +kernel) ?_
        refine aw_aload_n (k' := 0) (by decide +kernel) rfl ?_
        refine gfX7_9 rfl (by decide +kernel) (OB.at (ci := 6) (show shp 153 = (16, 0) by decide +kernel) (by decide)) ?_
        refine AW.topR (show RC 153 0 = 35 by decide +kernel) ?_
        refine gfX7_110 rfl (by decide +kernel) (OB.at (ci := 3) (show shp 35 = (13, 0) by decide +kernel) (by decide)) ?_
        refine aw_isub (by decide +kernel) ?_
        refine aw_mmax (by decide +kernel) mlX7_113 stJ9_max_7cf53 cwM_init cwM_max (by simp [oneSlot]) (Nat.le_of_ble_eq_true rfl) ?_
        exact hG
      · exact hG
    · have hG := hG.2 hc
      refine aw_iconst (n := 0) (by decide +kernel) ?_
      refine aw_goto (off := 30) (tgt := 210) (by decide +kernel) (by decide) ?_
      exact hG
  · exact hG
set_option maxHeartbeats 1000000 in
theorem wpX7_judge_210 {Γ : Cfg} {l : Launch} {d b : Nat} {g : GG} {K : Ou → HP → Prop} {x1 : Int} {x2 : Int} {x3 : Int} {s0 : Int} (hF : (∀ g1 : GG, g1 = puc (puc g 156 0 (g 154 2)) 156 1 ((puc g 156 0 (g 154 2)) 154 3) → (∀ g2 : GG, g2 = puc (puc g1 156 2 (g1 154 4)) 156 3 ((puc g1 156 2 (g1 154 4)) 154 5) → (∀ g3 : GG, g3 = puc (puc g2 156 4 (g2 154 6)) 156 5 ((puc g2 156 4 (g2 154 6)) 154 7) → (∀ g4 : GG, g4 = puc (puc g3 156 6 s0) 156 7 (1 + ((puc g3 156 6 s0) 35 7)) → K (.inl (vI s0)) (stt g4)))))) : AW Γ l mX7_judge (d + 1) b 210 [vR 153, vI x1, vI x2, vI x3, vU] [vI s0] (stt g) K := by
  refine aw_istore (i := 4) (by decide +kernel) (by decide) ?_
  show AW Γ l mX7_judge (d + 1) b 212 [vR 153, vI x1, vI x2, vI x3, vI s0] [] (stt g) K
  refine aw_aload_n (k' := 0) (by decide +kernel) rfl ?_
  refine gfX7_26 rfl (by decide +kernel) (OB.at (ci := 6) (show shp 153 = (16, 0) by decide +kernel) (by decide)) ?_
  refine AW.topR (show RC 153 3 = 156 by decide +kernel) ?_
  refine aw_iconst (n := 0) (by decide +kernel) ?_
  refine aw_aload_n (k' := 0) (by decide +kernel) rfl ?_
  refine gfX7_18 rfl (by decide +kernel) (OB.at (ci := 6) (show shp 153 = (16, 0) by decide +kernel) (by decide)) ?_
  refine AW.topR (show RC 153 1 = 154 by decide +kernel) ?_
  refine gfX7_77 rfl (by decide +kernel) (OB.at (ci := 0) (show shp 154 = (10, 0) by decide +kernel) (by decide)) ?_
  refine aw_callSN (host := "HalfOaths") (y := yX11_put) (M2 := mX11_put) (as := [vR 156, vI 0, vI (g 154 2)]) (S := []) (d2 := d) (b2 := 0) (b3 := b) cwX11_put mlX7_73 stX11_put (by decide +kernel) rfl (Nat.le_refl _) (Nat.le_of_eq (Nat.zero_add _)) rfl rfl (by simp [oneSlot]) (Nat.le_of_ble_eq_true rfl) (c_put (show (shp 156).1 = 0 by decide +kernel) ?_)
  show AW Γ l mX7_judge (d + 1) b 227 [vR 153, vI x1, vI x2, vI x3, vI s0] [] (stt (puc g 156 0 (g 154 2))) K
  refine aw_aload_n (k' := 0) (by decide +kernel) rfl ?_
  refine gfX7_26 rfl (by decide +kernel) (OB.at (ci := 6) (show shp 153 = (16, 0) by decide +kernel) (by decide)) ?_
  refine AW.topR (show RC 153 3 = 156 by decide +kernel) ?_
  refine aw_iconst (n := 1) (by decide +kernel) ?_
  refine aw_aload_n (k' := 0) (by decide +kernel) rfl ?_
  refine gfX7_18 rfl (by decide +kernel) (OB.at (ci := 6) (show shp 153 = (16, 0) by decide +kernel) (by decide)) ?_
  refine AW.topR (show RC 153 1 = 154 by decide +kernel) ?_
  refine gfX7_80 rfl (by decide +kernel) (OB.at (ci := 0) (show shp 154 = (10, 0) by decide +kernel) (by decide)) ?_
  refine aw_callSN (host := "HalfOaths") (y := yX11_put) (M2 := mX11_put) (as := [vR 156, vI 1, vI ((puc g 156 0 (g 154 2)) 154 3)]) (S := []) (d2 := d) (b2 := 0) (b3 := b) cwX11_put mlX7_73 stX11_put (by decide +kernel) rfl (Nat.le_refl _) (Nat.le_of_eq (Nat.zero_add _)) rfl rfl (by simp [oneSlot]) (Nat.le_of_ble_eq_true rfl) (c_put (show (shp 156).1 = 0 by decide +kernel) ?_)
  show AW Γ l mX7_judge (d + 1) b 242 [vR 153, vI x1, vI x2, vI x3, vI s0] [] (stt (puc (puc g 156 0 (g 154 2)) 156 1 ((puc g 156 0 (g 154 2)) 154 3))) K
  show AW Γ l mX7_judge (d + 1) b 242 [vR 153, vI x1, vI x2, vI x3, vI s0] [] (stt (puc (puc g 156 0 (g 154 2)) 156 1 ((puc g 156 0 (g 154 2)) 154 3))) K
  generalize eg1 : puc (puc g 156 0 (g 154 2)) 156 1 ((puc g 156 0 (g 154 2)) 154 3) = g1
  replace hF := hF g1 eg1.symm
  refine aw_aload_n (k' := 0) (by decide +kernel) rfl ?_
  refine gfX7_26 rfl (by decide +kernel) (OB.at (ci := 6) (show shp 153 = (16, 0) by decide +kernel) (by decide)) ?_
  refine AW.topR (show RC 153 3 = 156 by decide +kernel) ?_
  refine aw_iconst (n := 2) (by decide +kernel) ?_
  refine aw_aload_n (k' := 0) (by decide +kernel) rfl ?_
  refine gfX7_18 rfl (by decide +kernel) (OB.at (ci := 6) (show shp 153 = (16, 0) by decide +kernel) (by decide)) ?_
  refine AW.topR (show RC 153 1 = 154 by decide +kernel) ?_
  refine gfX7_83 rfl (by decide +kernel) (OB.at (ci := 0) (show shp 154 = (10, 0) by decide +kernel) (by decide)) ?_
  refine aw_callSN (host := "HalfOaths") (y := yX11_put) (M2 := mX11_put) (as := [vR 156, vI 2, vI (g1 154 4)]) (S := []) (d2 := d) (b2 := 0) (b3 := b) cwX11_put mlX7_73 stX11_put (by decide +kernel) rfl (Nat.le_refl _) (Nat.le_of_eq (Nat.zero_add _)) rfl rfl (by simp [oneSlot]) (Nat.le_of_ble_eq_true rfl) (c_put (show (shp 156).1 = 0 by decide +kernel) ?_)
  show AW Γ l mX7_judge (d + 1) b 257 [vR 153, vI x1, vI x2, vI x3, vI s0] [] (stt (puc g1 156 2 (g1 154 4))) K
  refine aw_aload_n (k' := 0) (by decide +kernel) rfl ?_
  refine gfX7_26 rfl (by decide +kernel) (OB.at (ci := 6) (show shp 153 = (16, 0) by decide +kernel) (by decide)) ?_
  refine AW.topR (show RC 153 3 = 156 by decide +kernel) ?_
  refine aw_iconst (n := 3) (by decide +kernel) ?_
  refine aw_aload_n (k' := 0) (by decide +kernel) rfl ?_
  refine gfX7_18 rfl (by decide +kernel) (OB.at (ci := 6) (show shp 153 = (16, 0) by decide +kernel) (by decide)) ?_
  refine AW.topR (show RC 153 1 = 154 by decide +kernel) ?_
  refine gfX7_92 rfl (by decide +kernel) (OB.at (ci := 0) (show shp 154 = (10, 0) by decide +kernel) (by decide)) ?_
  refine aw_callSN (host := "HalfOaths") (y := yX11_put) (M2 := mX11_put) (as := [vR 156, vI 3, vI ((puc g1 156 2 (g1 154 4)) 154 5)]) (S := []) (d2 := d) (b2 := 0) (b3 := b) cwX11_put mlX7_73 stX11_put (by decide +kernel) rfl (Nat.le_refl _) (Nat.le_of_eq (Nat.zero_add _)) rfl rfl (by simp [oneSlot]) (Nat.le_of_ble_eq_true rfl) (c_put (show (shp 156).1 = 0 by decide +kernel) ?_)
  show AW Γ l mX7_judge (d + 1) b 272 [vR 153, vI x1, vI x2, vI x3, vI s0] [] (stt (puc (puc g1 156 2 (g1 154 4)) 156 3 ((puc g1 156 2 (g1 154 4)) 154 5))) K
  show AW Γ l mX7_judge (d + 1) b 272 [vR 153, vI x1, vI x2, vI x3, vI s0] [] (stt (puc (puc g1 156 2 (g1 154 4)) 156 3 ((puc g1 156 2 (g1 154 4)) 154 5))) K
  generalize eg2 : puc (puc g1 156 2 (g1 154 4)) 156 3 ((puc g1 156 2 (g1 154 4)) 154 5) = g2
  replace hF := hF g2 eg2.symm
  refine aw_aload_n (k' := 0) (by decide +kernel) rfl ?_
  refine gfX7_26 rfl (by decide +kernel) (OB.at (ci := 6) (show shp 153 = (16, 0) by decide +kernel) (by decide)) ?_
  refine AW.topR (show RC 153 3 = 156 by decide +kernel) ?_
  refine aw_iconst (n := 4) (by decide +kernel) ?_
  refine aw_aload_n (k' := 0) (by decide +kernel) rfl ?_
  refine gfX7_18 rfl (by decide +kernel) (OB.at (ci := 6) (show shp 153 = (16, 0) by decide +kernel) (by decide)) ?_
  refine AW.topR (show RC 153 1 = 154 by decide +kernel) ?_
  refine gfX7_95 rfl (by decide +kernel) (OB.at (ci := 0) (show shp 154 = (10, 0) by decide +kernel) (by decide)) ?_
  refine aw_callSN (host := "HalfOaths") (y := yX11_put) (M2 := mX11_put) (as := [vR 156, vI 4, vI (g2 154 6)]) (S := []) (d2 := d) (b2 := 0) (b3 := b) cwX11_put mlX7_73 stX11_put (by decide +kernel) rfl (Nat.le_refl _) (Nat.le_of_eq (Nat.zero_add _)) rfl rfl (by simp [oneSlot]) (Nat.le_of_ble_eq_true rfl) (c_put (show (shp 156).1 = 0 by decide +kernel) ?_)
  show AW Γ l mX7_judge (d + 1) b 287 [vR 153, vI x1, vI x2, vI x3, vI s0] [] (stt (puc g2 156 4 (g2 154 6))) K
  refine aw_aload_n (k' := 0) (by decide +kernel) rfl ?_
  refine gfX7_26 rfl (by decide +kernel) (OB.at (ci := 6) (show shp 153 = (16, 0) by decide +kernel) (by decide)) ?_
  refine AW.topR (show RC 153 3 = 156 by decide +kernel) ?_
  refine aw_iconst (n := 5) (by decide +kernel) ?_
  refine aw_aload_n (k' := 0) (by decide +kernel) rfl ?_
  refine gfX7_18 rfl (by decide +kernel) (OB.at (ci := 6) (show shp 153 = (16, 0) by decide +kernel) (by decide)) ?_
  refine AW.topR (show RC 153 1 = 154 by decide +kernel) ?_
  refine gfX7_69 rfl (by decide +kernel) (OB.at (ci := 0) (show shp 154 = (10, 0) by decide +kernel) (by decide)) ?_
  refine aw_callSN (host := "HalfOaths") (y := yX11_put) (M2 := mX11_put) (as := [vR 156, vI 5, vI ((puc g2 156 4 (g2 154 6)) 154 7)]) (S := []) (d2 := d) (b2 := 0) (b3 := b) cwX11_put mlX7_73 stX11_put (by decide +kernel) rfl (Nat.le_refl _) (Nat.le_of_eq (Nat.zero_add _)) rfl rfl (by simp [oneSlot]) (Nat.le_of_ble_eq_true rfl) (c_put (show (shp 156).1 = 0 by decide +kernel) ?_)
  show AW Γ l mX7_judge (d + 1) b 302 [vR 153, vI x1, vI x2, vI x3, vI s0] [] (stt (puc (puc g2 156 4 (g2 154 6)) 156 5 ((puc g2 156 4 (g2 154 6)) 154 7))) K
  show AW Γ l mX7_judge (d + 1) b 302 [vR 153, vI x1, vI x2, vI x3, vI s0] [] (stt (puc (puc g2 156 4 (g2 154 6)) 156 5 ((puc g2 156 4 (g2 154 6)) 154 7))) K
  generalize eg3 : puc (puc g2 156 4 (g2 154 6)) 156 5 ((puc g2 156 4 (g2 154 6)) 154 7) = g3
  replace hF := hF g3 eg3.symm
  refine aw_aload_n (k' := 0) (by decide +kernel) rfl ?_
  refine gfX7_26 rfl (by decide +kernel) (OB.at (ci := 6) (show shp 153 = (16, 0) by decide +kernel) (by decide)) ?_
  refine AW.topR (show RC 153 3 = 156 by decide +kernel) ?_
  refine aw_bipush (n := 6) (by decide +kernel) (by decide +kernel) ?_
  refine aw_iload (i := 4) (by decide +kernel) rfl ?_
  refine aw_callSN (host := "HalfOaths") (y := yX11_put) (M2 := mX11_put) (as := [vR 156, vI 6, vI s0]) (S := []) (d2 := d) (b2 := 0) (b3 := b) cwX11_put mlX7_73 stX11_put (by decide +kernel) rfl (Nat.le_refl _) (Nat.le_of_eq (Nat.zero_add _)) rfl rfl (by simp [oneSlot]) (Nat.le_of_ble_eq_true rfl) (c_put (show (shp 156).1 = 0 by decide +kernel) ?_)
  show AW Γ l mX7_judge (d + 1) b 313 [vR 153, vI x1, vI x2, vI x3, vI s0] [] (stt (puc g3 156 6 s0)) K
  refine aw_aload_n (k' := 0) (by decide +kernel) rfl ?_
  refine gfX7_26 rfl (by decide +kernel) (OB.at (ci := 6) (show shp 153 = (16, 0) by decide +kernel) (by decide)) ?_
  refine AW.topR (show RC 153 3 = 156 by decide +kernel) ?_
  refine aw_bipush (n := 7) (by decide +kernel) (by decide +kernel) ?_
  refine aw_iconst (n := 1) (by decide +kernel) ?_
  refine aw_aload_n (k' := 0) (by decide +kernel) rfl ?_
  refine gfX7_9 rfl (by decide +kernel) (OB.at (ci := 6) (show shp 153 = (16, 0) by decide +kernel) (by decide)) ?_
  refine AW.topR (show RC 153 0 = 35 by decide +kernel) ?_
  refine gfX7_119 rfl (by decide +kernel) (OB.at (ci := 3) (show shp 35 = (13, 0) by decide +kernel) (by decide)) ?_
  refine aw_iadd (by decide +kernel) ?_
  refine aw_callSN (host := "HalfOaths") (y := yX11_put) (M2 := mX11_put) (as := [vR 156, vI 7, vI (1 + ((puc g3 156 6 s0) 35 7))]) (S := []) (d2 := d) (b2 := 0) (b3 := b) cwX11_put mlX7_73 stX11_put (by decide +kernel) rfl (Nat.le_refl _) (Nat.le_of_eq (Nat.zero_add _)) rfl rfl (by simp [oneSlot]) (Nat.le_of_ble_eq_true rfl) (c_put (show (shp 156).1 = 0 by decide +kernel) ?_)
  show AW Γ l mX7_judge (d + 1) b 331 [vR 153, vI x1, vI x2, vI x3, vI s0] [] (stt (puc (puc g3 156 6 s0) 156 7 (1 + ((puc g3 156 6 s0) 35 7)))) K
  show AW Γ l mX7_judge (d + 1) b 331 [vR 153, vI x1, vI x2, vI x3, vI s0] [] (stt (puc (puc g3 156 6 s0) 156 7 (1 + ((puc g3 156 6 s0) 35 7)))) K
  generalize eg4 : puc (puc g3 156 6 s0) 156 7 (1 + ((puc g3 156 6 s0) 35 7)) = g4
  replace hF := hF g4 eg4.symm
  refine aw_iload (i := 4) (by decide +kernel) rfl ?_
  exact aw_iret (by decide +kernel) rfl hF

