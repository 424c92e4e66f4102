/-! A line of numbers: its first sign is kept -/
set_option maxHeartbeats 1000000 in
theorem wpX3_readLine_75r {Γ : Cfg} {l : Launch} {d b : Nat} {g : GG} {K : Ou → HP → Prop} {t1 : Int} (ht1 : HI t1) {r2 : Int} {s0 : Int} {s1 : Int} (hF : Ct Γ l d 0 yX10_tells mX10_tells [vR 4, vI s1, vI s0] (stt g) (bI (fun v1 g1 => (¬ wr v1 = 0 → (SG r2) ∧ ((¬ r2 = 1014 → (SG r2) ∧ ((¬ r2 = 1015 → Ct Γ l d 0 yX10_step mX10_step [vR 4] (stt (upd2 g1 t1 12 (g1 4 6))) (bV (fun g2 => K (.inl (vI 1)) (stt g2)) K)) ∧ (r2 = 1015 → Ct Γ l d 0 yX10_step mX10_step [vR 4] (stt (upd2 g1 t1 11 (g1 4 6))) (bV (fun g3 => K (.inl (vI 1)) (stt g3)) K)))) ∧ (r2 = 1014 → Ct Γ l d 0 yX10_step mX10_step [vR 4] (stt (upd2 g1 t1 10 (g1 4 6))) (bV (fun g4 => K (.inl (vI 1)) (stt g4)) K)))) ∧ (¬ (¬ wr v1 = 0) → K (.inl (vI 0)) (stt g1))) K)) : AW Γ l mX3_readLine (d + 1) b 75 [vR 4, vR t1, vR r2] [vI s0, vI s1, vR 4] (stt g) K := by
  refine aw_callV (y := yX10_tells) (M2 := mX10_tells) (as := [vI s1, vI s0]) (S := []) (t := 4) (d2 := d) (b2 := 0) (b3 := b) cwX10_tells mlX3_53 imX10_tells seX10_tells (by decide +kernel) rfl (ci := 8) rfl (OB.at (ci := 8) (show shp 4 = (18, 0) by decide +kernel) (by decide)) (Nat.le_refl _) (Nat.le_of_eq (Nat.zero_add _)) rfl rfl (by simp [oneSlot]) (Nat.le_of_ble_eq_true rfl) (Ct.mono hF ?_)
  rintro o h' (⟨v1, g1, rfl, rfl, hG⟩ | ⟨E, g, rfl, rfl, hG⟩)
  · show AW Γ l mX3_readLine (d + 1) b 78 [vR 4, vR t1, vR r2] [vI v1] (stt g1) K
    refine ax_if_ne (off := 5) (tgt := 83) (x' := wr v1) (by decide +kernel) (by decide) rfl (fun hc => ?_) (fun hc => ?_)
    · have hG := hG.1 hc
      refine aw_aload_n (k' := 2) (by decide +kernel) rfl ?_
      refine aw_sign' (idx := 44) (i := 14) (r := 1014) (by decide +kernel) (by decide) (by decide) (fun hown hts hnw => Or.inl (hts _ (tm3 230 (by decide +kernel) (by decide +kernel)))) ?_
      refine aw_sacmp_ne (off := 14) (tgt := 101) (by decide +kernel) (by decide) hG.1 (show SG 1014 from ⟨by decide, by decide⟩) (fun hc => ?_) (fun hc => ?_)
      all_goals replace hG := hG.2
      · have hG := hG.1 hc
        refine aw_aload_n (k' := 2) (by decide +kernel) rfl ?_
        refine aw_sign' (idx := 47) (i := 15) (r := 1015) (by decide +kernel) (by decide) (by decide) (fun hown hts hnw => Or.inl (hts _ (tm3 232 (by decide +kernel) (by decide +kernel)))) ?_
        refine aw_sacmp_ne (off := 14) (tgt := 119) (by decide +kernel) (by decide) hG.1 (show SG 1015 from ⟨by decide, by decide⟩) (fun hc => ?_) (fun hc => ?_)
        all_goals replace hG := hG.2
        · have hG := hG.1 hc
          refine aw_aload_n (k' := 1) (by decide +kernel) rfl ?_
          refine aw_aload_n (k' := 0) (by decide +kernel) rfl ?_
          refine gfX3_57 rfl (by decide +kernel) (OB.at (ci := 8) (show shp 4 = (18, 0) by decide +kernel) (by decide)) ?_
          refine pfX3_69 rfl (by decide +kernel) (OB.at ht1.ob (by decide)) ?_
          show AW Γ l mX3_readLine (d + 1) b 127 [vR 4, vR t1, vR r2] [] (stt (upd2 g1 t1 12 (g1 4 6))) K
          refine aw_aload_n (k' := 0) (by decide +kernel) rfl ?_
          refine aw_callV (y := yX10_step) (M2 := mX10_step) (as := []) (S := []) (t := 4) (d2 := d) (b2 := 0) (b3 := b) cwX10_step mlX3_29 imX10_step seX10_step (by decide +kernel) rfl (ci := 8) rfl (OB.at (ci := 8) (show shp 4 = (18, 0) by decide +kernel) (by decide)) (Nat.le_refl _) (Nat.le_of_eq (Nat.zero_add _)) rfl rfl (by simp [oneSlot]) (Nat.le_of_ble_eq_true rfl) (Ct.mono hG ?_)
          rintro o h' (⟨g2, rfl, rfl, hG⟩ | ⟨E, g, rfl, rfl, hG⟩)
          · show AW Γ l mX3_readLine (d + 1) b 131 [vR 4, vR t1, vR r2] [] (stt g2) K
            refine aw_iconst (n := 1) (by decide +kernel) ?_
            exact aw_zret (by decide +kernel) rfl rfl hG
          · exact hG
        · have hG := hG.2 hc
          refine aw_aload_n (k' := 1) (by decide +kernel) rfl ?_
          refine aw_aload_n (k' := 0) (by decide +kernel) rfl ?_
          refine gfX3_57 rfl (by decide +kernel) (OB.at (ci := 8) (show shp 4 = (18, 0) by decide +kernel) (by decide)) ?_
          refine pfX3_66 rfl (by decide +kernel) (OB.at ht1.ob (by decide)) ?_
          show AW Γ l mX3_readLine (d + 1) b 116 [vR 4, vR t1, vR r2] [] (stt (upd2 g1 t1 11 (g1 4 6))) K
          refine aw_goto (off := 11) (tgt := 127) (by decide +kernel) (by decide) ?_
          refine aw_aload_n (k' := 0) (by decide +kernel) rfl ?_
          refine aw_callV (y := yX10_step) (M2 := mX10_step) (as := []) (S := []) (t := 4) (d2 := d) (b2 := 0) (b3 := b) cwX10_step mlX3_29 imX10_step seX10_step (by decide +kernel) rfl (ci := 8) rfl (OB.at (ci := 8) (show shp 4 = (18, 0) by decide +kernel) (by decide)) (Nat.le_refl _) (Nat.le_of_eq (Nat.zero_add _)) rfl rfl (by simp [oneSlot]) (Nat.le_of_ble_eq_true rfl) (Ct.mono hG ?_)
          rintro o h' (⟨g3, rfl, rfl, hG⟩ | ⟨E, g, rfl, rfl, hG⟩)
          · show AW Γ l mX3_readLine (d + 1) b 131 [vR 4, vR t1, vR r2] [] (stt g3) K
            refine aw_iconst (n := 1) (by decide +kernel) ?_
            exact aw_zret (by decide +kernel) rfl rfl hG
          · exact hG
      · have hG := hG.2 hc
        refine aw_aload_n (k' := 1) (by decide +kernel) rfl ?_
        refine aw_aload_n (k' := 0) (by decide +kernel) rfl ?_
        refine gfX3_57 rfl (by decide +kernel) (OB.at (ci := 8) (show shp 4 = (18, 0) by decide +kernel) (by decide)) ?_
        refine pfX3_61 rfl (by decide +kernel) (OB.at ht1.ob (by decide)) ?_
        show AW Γ l mX3_readLine (d + 1) b 98 [vR 4, vR t1, vR r2] [] (stt (upd2 g1 t1 10 (g1 4 6))) K
        refine aw_goto (off := 29) (tgt := 127) (by decide +kernel) (by decide) ?_
        refine aw_aload_n (k' := 0) (by decide +kernel) rfl ?_
        refine aw_callV (y := yX10_step) (M2 := mX10_step) (as := []) (S := []) (t := 4) (d2 := d) (b2 := 0) (b3 := b) cwX10_step mlX3_29 imX10_step seX10_step (by decide +kernel) rfl (ci := 8) rfl (OB.at (ci := 8) (show shp 4 = (18, 0) by decide +kernel) (by decide)) (Nat.le_refl _) (Nat.le_of_eq (Nat.zero_add _)) rfl rfl (by simp [oneSlot]) (Nat.le_of_ble_eq_true rfl) (Ct.mono hG ?_)
        rintro o h' (⟨g4, rfl, rfl, hG⟩ | ⟨E, g, rfl, rfl, hG⟩)
        · show AW Γ l mX3_readLine (d + 1) b 131 [vR 4, vR t1, vR r2] [] (stt g4) K
          refine aw_iconst (n := 1) (by decide +kernel) ?_
          exact aw_zret (by decide +kernel) rfl rfl hG
        · exact hG
    · have hG := hG.2 hc
      refine aw_iconst (n := 0) (by decide +kernel) ?_
      exact aw_zret (by decide +kernel) rfl rfl hG
  · exact hG
