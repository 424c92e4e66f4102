/-! WALKS: the readers -/
set_option maxHeartbeats 1000000 in
theorem wpX3_readText {Γ : Cfg} {l : Launch} {d b : Nat} {g : GG} {K : Ou → HP → Prop} {t1 : Int} (ht1 : HI t1) (hF : (SG (g 4 4)) ∧ ((¬ g 4 4 = 1037 → AW Γ l mX3_readText (d + 1) b 14 [vR 4, vR t1, vI 0] [] (stt g) K) ∧ (g 4 4 = 1037 → K (.inl (vI 1)) (stt g)))) : Ct Γ l (d + 1) b yX3_readText mX3_readText [vR 4, vR t1] (stt g) K := by
  refine Ct.enter (L := [vR 4, vR t1, vU]) rfl rfl rfl (by decide +kernel) (by simp [oneSlot]) (Nat.le_of_ble_eq_true rfl) rfl ?_
  refine aw_aload_n (k' := 0) (by decide +kernel) rfl ?_
  refine gfX3_9 rfl (by decide +kernel) (OB.at (ci := 8) (show shp 4 = (18, 0) by decide +kernel) (by decide)) ?_
  refine aw_sign' (idx := 15) (i := 37) (r := 1037) (by decide +kernel) (by decide) (by decide) (fun hown hts hnw => Or.inl (hts _ (tm3 195 (by decide +kernel) (by decide +kernel)))) ?_
  refine aw_sacmp_ne (off := 5) (tgt := 12) (by decide +kernel) (by decide) hF.1 (show SG 1037 from ⟨by decide, by decide⟩) (fun hc => ?_) (fun hc => ?_)
  all_goals replace hF := hF.2
  · have hF := hF.1 hc
    refine aw_iconst (n := 0) (by decide +kernel) ?_
    refine aw_istore_n (k' := 2) (by decide +kernel) (by decide) ?_
    show AW Γ l mX3_readText (d + 1) b 14 [vR 4, vR t1, vI 0] [] (stt g) K
    exact hF
  · have hF := hF.2 hc
    refine aw_iconst (n := 1) (by decide +kernel) ?_
    exact aw_zret (by decide +kernel) rfl rfl hF
set_option maxHeartbeats 1000000 in
theorem wpX3_readText_14 {Γ : Cfg} {l : Launch} {d b : Nat} {g : GG} {K : Ou → HP → Prop} {t1 : Int} (ht1 : HI t1) {y2 : Int} (hF : (14 ≤ wr y2 → K (.inl (vI 0)) (stt g)) ∧ (¬ (14 ≤ wr y2) → Ct Γ l d 0 yX3_readLine mX3_readLine [vR 4, vR t1] (stt g) (bI (fun v1 g1 => (¬ wr v1 = 0 → (SG (g1 4 4)) ∧ ((¬ g1 4 4 = 1037 → (SG (g1 4 4)) ∧ ((g1 4 4 = 1030 → Ct Γ l d 0 yX10_step mX10_step [vR 4] (stt g1) (bV (fun g2 => AW Γ l mX3_readText (d + 1) b 14 [vR 4, vR t1, vI (y2 + 1)] [] (stt g2) K) K)) ∧ (¬ g1 4 4 = 1030 → K (.inl (vI 0)) (stt g1)))) ∧ (g1 4 4 = 1037 → K (.inl (vI 1)) (stt g1)))) ∧ (¬ (¬ wr v1 = 0) → K (.inl (vI 0)) (stt g1))) K))) : AW Γ l mX3_readText (d + 1) b 14 [vR 4, vR t1, vI y2] [] (stt g) K := by
  refine aw_iload_n (k' := 2) (by decide +kernel) rfl ?_
  refine aw_bipush (n := 14) (by decide +kernel) (by decide +kernel) ?_
  refine ax_icmp_ge (off := 47) (tgt := 64) (x' := wr y2) (y' := 14) (by decide +kernel) (by decide) rfl (by decide +kernel) (fun hc => ?_) (fun hc => ?_)
  · have hF := hF.1 hc
    refine aw_iconst (n := 0) (by decide +kernel) ?_
    exact aw_zret (by decide +kernel) rfl rfl hF
  · have hF := hF.2 hc
    refine aw_aload_n (k' := 0) (by decide +kernel) rfl ?_
    refine aw_aload_n (k' := 1) (by decide +kernel) rfl ?_
    refine aw_callS (y := yX3_readLine) (M2 := mX3_readLine) (as := [vR 4, vR t1]) (S := []) (d2 := d) (b2 := 0) (b3 := b) cwX3_readLine mlX3_20 stX3_readLine (by decide +kernel) rfl (Nat.le_refl _) (Nat.le_of_eq (Nat.zero_add _)) rfl rfl (by simp [oneSlot]) (Nat.le_of_ble_eq_true rfl) (Ct.mono hF ?_)
    rintro o h' (⟨v1, g1, rfl, rfl, hG⟩ | ⟨E, g, rfl, rfl, hG⟩)
    · show AW Γ l mX3_readText (d + 1) b 25 [vR 4, vR t1, vI y2] [vI v1] (stt g1) K
      refine ax_if_ne (off := 5) (tgt := 30) (x' := wr v1) (by decide +kernel) (by decide) rfl (fun hc => ?_) (fun hc => ?_)
      · have hG := hG.1 hc
        refine aw_aload_n (k' := 0) (by decide +kernel) rfl ?_
        refine gfX3_9 rfl (by decide +kernel) (OB.at (ci := 8) (show shp 4 = (18, 0) by decide +kernel) (by decide)) ?_
        refine aw_sign' (idx := 15) (i := 37) (r := 1037) (by decide +kernel) (by decide) (by decide) (fun hown hts hnw => Or.inl (hts _ (tm3 195 (by decide +kernel) (by decide +kernel)))) ?_
        refine aw_sacmp_ne (off := 5) (tgt := 42) (by decide +kernel) (by decide) hG.1 (show SG 1037 from ⟨by decide, by decide⟩) (fun hc => ?_) (fun hc => ?_)
        all_goals replace hG := hG.2
        · have hG := hG.1 hc
          refine aw_aload_n (k' := 0) (by decide +kernel) rfl ?_
          refine gfX3_9 rfl (by decide +kernel) (OB.at (ci := 8) (show shp 4 = (18, 0) by decide +kernel) (by decide)) ?_
          refine aw_sign' (idx := 26) (i := 30) (r := 1030) (by decide +kernel) (by decide) (by decide) (fun hown hts hnw => Or.inl (hts _ (tm3 236 (by decide +kernel) (by decide +kernel)))) ?_
          refine aw_sacmp_eq (off := 5) (tgt := 54) (by decide +kernel) (by decide) hG.1 (show SG 1030 from ⟨by decide, by decide⟩) (fun hc => ?_) (fun hc => ?_)
          all_goals replace hG := hG.2
          · have hG := hG.1 hc
            refine aw_aload_n (k' := 0) (by decide +kernel) rfl ?_
            refine aw_callV (y := yX10_step) (M2 := mX10_step) (as := []) (S := []) (t := 4) (d2 := d) (b2 := 0) (b3 := b) cwX10_step mlX3_29 imX10_step seX10_step (by decide +kernel) rfl (ci := 8) rfl (OB.at (ci := 8) (show shp 4 = (18, 0) by decide +kernel) (by decide)) (Nat.le_refl _) (Nat.le_of_eq (Nat.zero_add _)) rfl rfl (by simp [oneSlot]) (Nat.le_of_ble_eq_true rfl) (Ct.mono hG ?_)
            rintro o h' (⟨g2, rfl, rfl, hG⟩ | ⟨E, g, rfl, rfl, hG⟩)
            · show AW Γ l mX3_readText (d + 1) b 58 [vR 4, vR t1, vI y2] [] (stt g2) K
              refine aw_iinc (i := 2) (n := 1) (by decide +kernel) rfl (by decide) ?_
              show AW Γ l mX3_readText (d + 1) b 61 [vR 4, vR t1, vI (y2 + 1)] [] (stt g2) K
              refine aw_goto (off := -47) (tgt := 14) (by decide +kernel) (by decide) ?_
              exact hG
            · exact hG
          · have hG := hG.2 hc
            refine aw_iconst (n := 0) (by decide +kernel) ?_
            exact aw_zret (by decide +kernel) rfl rfl hG
        · have hG := hG.2 hc
          refine aw_iconst (n := 1) (by decide +kernel) ?_
          exact aw_zret (by decide +kernel) rfl rfl hG
      · have hG := hG.2 hc
        refine aw_iconst (n := 0) (by decide +kernel) ?_
        exact aw_zret (by decide +kernel) rfl rfl hG
    · exact hG

set_option maxHeartbeats 1000000 in
theorem wpX3_readLine {Γ : Cfg} {l : Launch} {d b : Nat} {g : GG} {K : Ou → HP → Prop} {t1 : Int} (ht1 : HI t1) (hF : (SG (g 4 4)) ∧ ((¬ g 4 4 = 1010 → (SG (g 4 4)) ∧ ((¬ g 4 4 = 1013 → (SG (g 4 4)) ∧ ((g 4 4 = 1014 → AW Γ l mX3_readLine (d + 1) b 54 [vR 4, vR t1, vR (g 4 4)] [] (stt g) K) ∧ (¬ g 4 4 = 1014 → (SG (g 4 4)) ∧ ((g 4 4 = 1015 → AW Γ l mX3_readLine (d + 1) b 54 [vR 4, vR t1, vR (g 4 4)] [] (stt g) K) ∧ (¬ g 4 4 = 1015 → (SG (g 4 4)) ∧ ((g 4 4 = 1016 → AW Γ l mX3_readLine (d + 1) b 54 [vR 4, vR t1, vR (g 4 4)] [] (stt g) K) ∧ (¬ g 4 4 = 1016 → K (.inl (vI 0)) (stt g)))))))) ∧ (g 4 4 = 1013 → Ct Γ l d 0 yX3_readMode mX3_readMode [vR 4, vR t1] (stt g) (bI (fun v1 g1 => (wr v1 = 0 ∨ wr v1 = 1) ∧ K (.inl (vI v1)) (stt g1)) K)))) ∧ (g 4 4 = 1010 → Ct Γ l d 0 yX3_readOath mX3_readOath [vR 4, vR t1] (stt g) (bI (fun v2 g2 => (wr v2 = 0 ∨ wr v2 = 1) ∧ K (.inl (vI v2)) (stt g2)) K)))) : Ct Γ l (d + 1) b yX3_readLine mX3_readLine [vR 4, vR t1] (stt g) K := by
  refine Ct.enter (L := [vR 4, vR t1, vU]) rfl rfl rfl (by decide +kernel) (by simp [oneSlot]) (Nat.le_of_ble_eq_true rfl) rfl ?_
  refine aw_aload_n (k' := 0) (by decide +kernel) rfl ?_
  refine gfX3_9 rfl (by decide +kernel) (OB.at (ci := 8) (show shp 4 = (18, 0) by decide +kernel) (by decide)) ?_
  refine aw_astore_n (k' := 2) (by decide +kernel) (by decide) ?_
  show AW Γ l mX3_readLine (d + 1) b 5 [vR 4, vR t1, vR (g 4 4)] [] (stt g) K
  refine aw_aload_n (k' := 2) (by decide +kernel) rfl ?_
  refine aw_sign' (idx := 32) (i := 10) (r := 1010) (by decide +kernel) (by decide) (by decide) (fun hown hts hnw => Or.inl (hts _ (tm3 199 (by decide +kernel) (by decide +kernel)))) ?_
  refine aw_sacmp_ne (off := 9) (tgt := 18) (by decide +kernel) (by decide) hF.1 (show SG 1010 from ⟨by decide, by decide⟩) (fun hc => ?_) (fun hc => ?_)
  all_goals replace hF := hF.2
  · have hF := hF.1 hc
    refine aw_aload_n (k' := 2) (by decide +kernel) rfl ?_
    refine aw_sign' (idx := 38) (i := 13) (r := 1013) (by decide +kernel) (by decide) (by decide) (fun hown hts hnw => Or.inl (hts _ (tm3 225 (by decide +kernel) (by decide +kernel)))) ?_
    refine aw_sacmp_ne (off := 9) (tgt := 31) (by decide +kernel) (by decide) hF.1 (show SG 1013 from ⟨by decide, by decide⟩) (fun hc => ?_) (fun hc => ?_)
    all_goals replace hF := hF.2
    · have hF := hF.1 hc
      refine aw_aload_n (k' := 2) (by decide +kernel) rfl ?_
      refine aw_sign' (idx := 44) (i := 14) (r := 1014) (by decide +kernel) (by decide) (by decide) (fun hown hts hnw => Or.inl (hts _ (tm3 230 (by decide +kernel) (by decide +kernel)))) ?_
      refine aw_sacmp_eq (off := 19) (tgt := 54) (by decide +kernel) (by decide) hF.1 (show SG 1014 from ⟨by decide, by decide⟩) (fun hc => ?_) (fun hc => ?_)
      all_goals replace hF := hF.2
      · have hF := hF.1 hc
        exact hF
      · have hF := hF.2 hc
        refine aw_aload_n (k' := 2) (by decide +kernel) rfl ?_
        refine aw_sign' (idx := 47) (i := 15) (r := 1015) (by decide +kernel) (by decide) (by decide) (fun hown hts hnw => Or.inl (hts _ (tm3 232 (by decide +kernel) (by decide +kernel)))) ?_
        refine aw_sacmp_eq (off := 12) (tgt := 54) (by decide +kernel) (by decide) hF.1 (show SG 1015 from ⟨by decide, by decide⟩) (fun hc => ?_) (fun hc => ?_)
        all_goals replace hF := hF.2
        · have hF := hF.1 hc
          exact hF
        · have hF := hF.2 hc
          refine aw_aload_n (k' := 2) (by decide +kernel) rfl ?_
          refine aw_sign' (idx := 50) (i := 16) (r := 1016) (by decide +kernel) (by decide) (by decide) (fun hown hts hnw => Or.inl (hts _ (tm3 234 (by decide +kernel) (by decide +kernel)))) ?_
          refine aw_sacmp_eq (off := 5) (tgt := 54) (by decide +kernel) (by decide) hF.1 (show SG 1016 from ⟨by decide, by decide⟩) (fun hc => ?_) (fun hc => ?_)
          all_goals replace hF := hF.2
          · have hF := hF.1 hc
            exact hF
          · have hF := hF.2 hc
            refine aw_iconst (n := 0) (by decide +kernel) ?_
            exact aw_zret (by decide +kernel) rfl rfl hF
    · have hF := hF.2 hc
      refine aw_aload_n (k' := 0) (by decide +kernel) rfl ?_
      refine aw_aload_n (k' := 1) (by decide +kernel) rfl ?_
      refine aw_callS (y := yX3_readMode) (M2 := mX3_readMode) (as := [vR 4, vR t1]) (S := []) (d2 := d) (b2 := 0) (b3 := b) cwX3_readMode mlX3_41 stX3_readMode (by decide +kernel) rfl (Nat.le_refl _) (Nat.le_of_eq (Nat.zero_add _)) rfl rfl (by simp [oneSlot]) (Nat.le_of_ble_eq_true rfl) (Ct.mono hF ?_)
      rintro o h' (⟨v1, g1, rfl, rfl, hG⟩ | ⟨E, g, rfl, rfl, hG⟩)
      · show AW Γ l mX3_readLine (d + 1) b 30 [vR 4, vR t1, vR (g 4 4)] [vI v1] (stt g1) K
        exact aw_zret (by decide +kernel) rfl (nar_z hG.1) hG.2
      · exact hG
  · have hF := hF.2 hc
    refine aw_aload_n (k' := 0) (by decide +kernel) rfl ?_
    refine aw_aload_n (k' := 1) (by decide +kernel) rfl ?_
    refine aw_callS (y := yX3_readOath) (M2 := mX3_readOath) (as := [vR 4, vR t1]) (S := []) (d2 := d) (b2 := 0) (b3 := b) cwX3_readOath mlX3_35 stX3_readOath (by decide +kernel) rfl (Nat.le_refl _) (Nat.le_of_eq (Nat.zero_add _)) rfl rfl (by simp [oneSlot]) (Nat.le_of_ble_eq_true rfl) (Ct.mono hF ?_)
    rintro o h' (⟨v2, g2, rfl, rfl, hG⟩ | ⟨E, g, rfl, rfl, hG⟩)
    · show AW Γ l mX3_readLine (d + 1) b 17 [vR 4, vR t1, vR (g 4 4)] [vI v2] (stt g2) K
      exact aw_zret (by decide +kernel) rfl (nar_z hG.1) hG.2
    · exact hG
set_option maxHeartbeats 1000000 in
theorem wpX3_readLine_54 {Γ : Cfg} {l : Launch} {d b : Nat} {g : GG} {K : Ou → HP → Prop} {t1 : Int} (ht1 : HI t1) (hF : Ct Γ l d 0 yX10_step mX10_step [vR 4] (stt g) (bV (fun g1 => (SG (g 4 4)) ∧ ((¬ g 4 4 = 1014 → AW Γ l mX3_readLine (d + 1) b 75 [vR 4, vR t1, vR (g 4 4)] [vI 999, vI 0, vR 4] (stt g1) K) ∧ (g 4 4 = 1014 → AW Γ l mX3_readLine (d + 1) b 75 [vR 4, vR t1, vR (g 4 4)] [vI 100, vI 0, vR 4] (stt g1) K))) K)) : AW Γ l mX3_readLine (d + 1) b 54 [vR 4, vR t1, vR (g 4 4)] [] (stt g) K := by
  refine aw_aload_n (k' := 0) (by decide +kernel) rfl ?_
  refine aw_callV (y := yX10_step) (M2 := mX10_step) (as := []) (S := []) (t := 4) (d2 := d) (b2 := 0) (b3 := b) cwX10_step mlX3_29 imX10_step seX10_step (by decide +kernel) rfl (ci := 8) rfl (OB.at (ci := 8) (show shp 4 = (18, 0) by decide +kernel) (by decide)) (Nat.le_refl _) (Nat.le_of_eq (Nat.zero_add _)) rfl rfl (by simp [oneSlot]) (Nat.le_of_ble_eq_true rfl) (Ct.mono hF ?_)
  rintro o h' (⟨g1, rfl, rfl, hG⟩ | ⟨E, g, rfl, rfl, hG⟩)
  · show AW Γ l mX3_readLine (d + 1) b 58 [vR 4, vR t1, vR (g 4 4)] [] (stt g1) K
    refine aw_aload_n (k' := 0) (by decide +kernel) rfl ?_
    refine aw_iconst (n := 0) (by decide +kernel) ?_
    refine aw_aload_n (k' := 2) (by decide +kernel) rfl ?_
    refine aw_sign' (idx := 44) (i := 14) (r := 1014) (by decide +kernel) (by decide) (by decide) (fun hown hts hnw => Or.inl (hts _ (tm3 230 (by decide +kernel) (by decide +kernel)))) ?_
    refine aw_sacmp_ne (off := 8) (tgt := 72) (by decide +kernel) (by decide) hG.1 (show SG 1014 from ⟨by decide, by decide⟩) (fun hc => ?_) (fun hc => ?_)
    all_goals replace hG := hG.2
    · have hG := hG.1 hc
      refine aw_sipush (n := 999) (by decide +kernel) (by decide +kernel) ?_
      exact hG
    · have hG := hG.2 hc
      refine aw_bipush (n := 100) (by decide +kernel) (by decide +kernel) ?_
      refine aw_goto (off := 6) (tgt := 75) (by decide +kernel) (by decide) ?_
      exact hG
  · exact hG
set_option maxHeartbeats 1000000 in
theorem wpX3_readLine_75 {Γ : Cfg} {l : Launch} {d b : Nat} {g : GG} {K : Ou → HP → Prop} {t1 : Int} (ht1 : HI t1) {s0 : Int} {s1 : Int} (hF : Ct Γ l d 0 yX10_tells mX10_tells [vR 4, vI s1, vI s0] (stt g) (bI (fun v1 g1 => (¬ wr v1 = 0 → (SG (g 4 4)) ∧ ((¬ g 4 4 = 1014 → (SG (g 4 4)) ∧ ((¬ g 4 4 = 1015 → Ct Γ l d 0 yX10_step mX10_step [vR 4] (stt (upd2 g1 t1 12 (g1 4 6))) (bV (fun g2 => K (.inl (vI 1)) (stt g2)) K)) ∧ (g 4 4 = 1015 → Ct Γ l d 0 yX10_step mX10_step [vR 4] (stt (upd2 g1 t1 11 (g1 4 6))) (bV (fun g3 => K (.inl (vI 1)) (stt g3)) K)))) ∧ (g 4 4 = 1014 → Ct Γ l d 0 yX10_step mX10_step [vR 4] (stt (upd2 g1 t1 10 (g1 4 6))) (bV (fun g4 => K (.inl (vI 1)) (stt g4)) K)))) ∧ (¬ (¬ wr v1 = 0) → K (.inl (vI 0)) (stt g1))) K)) : AW Γ l mX3_readLine (d + 1) b 75 [vR 4, vR t1, vR (g 4 4)] [vI s0, vI s1, vR 4] (stt g) K := by
  refine aw_callV (y := yX10_tells) (M2 := mX10_tells) (as := [vI s1, vI s0]) (S := []) (t := 4) (d2 := d) (b2 := 0) (b3 := b) cwX10_tells mlX3_53 imX10_tells seX10_tells (by decide +kernel) rfl (ci := 8) rfl (OB.at (ci := 8) (show shp 4 = (18, 0) by decide +kernel) (by decide)) (Nat.le_refl _) (Nat.le_of_eq (Nat.zero_add _)) rfl rfl (by simp [oneSlot]) (Nat.le_of_ble_eq_true rfl) (Ct.mono hF ?_)
  rintro o h' (⟨v1, g1, rfl, rfl, hG⟩ | ⟨E, g, rfl, rfl, hG⟩)
  · show AW Γ l mX3_readLine (d + 1) b 78 [vR 4, vR t1, vR (g 4 4)] [vI v1] (stt g1) K
    refine ax_if_ne (off := 5) (tgt := 83) (x' := wr v1) (by decide +kernel) (by decide) rfl (fun hc => ?_) (fun hc => ?_)
    · have hG := hG.1 hc
      refine aw_aload_n (k' := 2) (by decide +kernel) rfl ?_
      refine aw_sign' (idx := 44) (i := 14) (r := 1014) (by decide +kernel) (by decide) (by decide) (fun hown hts hnw => Or.inl (hts _ (tm3 230 (by decide +kernel) (by decide +kernel)))) ?_
      refine aw_sacmp_ne (off := 14) (tgt := 101) (by decide +kernel) (by decide) hG.1 (show SG 1014 from ⟨by decide, by decide⟩) (fun hc => ?_) (fun hc => ?_)
      all_goals replace hG := hG.2
      · have hG := hG.1 hc
        refine aw_aload_n (k' := 2) (by decide +kernel) rfl ?_
        refine aw_sign' (idx := 47) (i := 15) (r := 1015) (by decide +kernel) (by decide) (by decide) (fun hown hts hnw => Or.inl (hts _ (tm3 232 (by decide +kernel) (by decide +kernel)))) ?_
        refine aw_sacmp_ne (off := 14) (tgt := 119) (by decide +kernel) (by decide) hG.1 (show SG 1015 from ⟨by decide, by decide⟩) (fun hc => ?_) (fun hc => ?_)
        all_goals replace hG := hG.2
        · have hG := hG.1 hc
          refine aw_aload_n (k' := 1) (by decide +kernel) rfl ?_
          refine aw_aload_n (k' := 0) (by decide +kernel) rfl ?_
          refine gfX3_57 rfl (by decide +kernel) (OB.at (ci := 8) (show shp 4 = (18, 0) by decide +kernel) (by decide)) ?_
          refine pfX3_69 rfl (by decide +kernel) (OB.at ht1.ob (by decide)) ?_
          show AW Γ l mX3_readLine (d + 1) b 127 [vR 4, vR t1, vR (g 4 4)] [] (stt (upd2 g1 t1 12 (g1 4 6))) K
          refine aw_aload_n (k' := 0) (by decide +kernel) rfl ?_
          refine aw_callV (y := yX10_step) (M2 := mX10_step) (as := []) (S := []) (t := 4) (d2 := d) (b2 := 0) (b3 := b) cwX10_step mlX3_29 imX10_step seX10_step (by decide +kernel) rfl (ci := 8) rfl (OB.at (ci := 8) (show shp 4 = (18, 0) by decide +kernel) (by decide)) (Nat.le_refl _) (Nat.le_of_eq (Nat.zero_add _)) rfl rfl (by simp [oneSlot]) (Nat.le_of_ble_eq_true rfl) (Ct.mono hG ?_)
          rintro o h' (⟨g2, rfl, rfl, hG⟩ | ⟨E, g, rfl, rfl, hG⟩)
          · show AW Γ l mX3_readLine (d + 1) b 131 [vR 4, vR t1, vR (g 4 4)] [] (stt g2) K
            refine aw_iconst (n := 1) (by decide +kernel) ?_
            exact aw_zret (by decide +kernel) rfl rfl hG
          · exact hG
        · have hG := hG.2 hc
          refine aw_aload_n (k' := 1) (by decide +kernel) rfl ?_
          refine aw_aload_n (k' := 0) (by decide +kernel) rfl ?_
          refine gfX3_57 rfl (by decide +kernel) (OB.at (ci := 8) (show shp 4 = (18, 0) by decide +kernel) (by decide)) ?_
          refine pfX3_66 rfl (by decide +kernel) (OB.at ht1.ob (by decide)) ?_
          show AW Γ l mX3_readLine (d + 1) b 116 [vR 4, vR t1, vR (g 4 4)] [] (stt (upd2 g1 t1 11 (g1 4 6))) K
          refine aw_goto (off := 11) (tgt := 127) (by decide +kernel) (by decide) ?_
          refine aw_aload_n (k' := 0) (by decide +kernel) rfl ?_
          refine aw_callV (y := yX10_step) (M2 := mX10_step) (as := []) (S := []) (t := 4) (d2 := d) (b2 := 0) (b3 := b) cwX10_step mlX3_29 imX10_step seX10_step (by decide +kernel) rfl (ci := 8) rfl (OB.at (ci := 8) (show shp 4 = (18, 0) by decide +kernel) (by decide)) (Nat.le_refl _) (Nat.le_of_eq (Nat.zero_add _)) rfl rfl (by simp [oneSlot]) (Nat.le_of_ble_eq_true rfl) (Ct.mono hG ?_)
          rintro o h' (⟨g3, rfl, rfl, hG⟩ | ⟨E, g, rfl, rfl, hG⟩)
          · show AW Γ l mX3_readLine (d + 1) b 131 [vR 4, vR t1, vR (g 4 4)] [] (stt g3) K
            refine aw_iconst (n := 1) (by decide +kernel) ?_
            exact aw_zret (by decide +kernel) rfl rfl hG
          · exact hG
      · have hG := hG.2 hc
        refine aw_aload_n (k' := 1) (by decide +kernel) rfl ?_
        refine aw_aload_n (k' := 0) (by decide +kernel) rfl ?_
        refine gfX3_57 rfl (by decide +kernel) (OB.at (ci := 8) (show shp 4 = (18, 0) by decide +kernel) (by decide)) ?_
        refine pfX3_61 rfl (by decide +kernel) (OB.at ht1.ob (by decide)) ?_
        show AW Γ l mX3_readLine (d + 1) b 98 [vR 4, vR t1, vR (g 4 4)] [] (stt (upd2 g1 t1 10 (g1 4 6))) K
        refine aw_goto (off := 29) (tgt := 127) (by decide +kernel) (by decide) ?_
        refine aw_aload_n (k' := 0) (by decide +kernel) rfl ?_
        refine aw_callV (y := yX10_step) (M2 := mX10_step) (as := []) (S := []) (t := 4) (d2 := d) (b2 := 0) (b3 := b) cwX10_step mlX3_29 imX10_step seX10_step (by decide +kernel) rfl (ci := 8) rfl (OB.at (ci := 8) (show shp 4 = (18, 0) by decide +kernel) (by decide)) (Nat.le_refl _) (Nat.le_of_eq (Nat.zero_add _)) rfl rfl (by simp [oneSlot]) (Nat.le_of_ble_eq_true rfl) (Ct.mono hG ?_)
        rintro o h' (⟨g4, rfl, rfl, hG⟩ | ⟨E, g, rfl, rfl, hG⟩)
        · show AW Γ l mX3_readLine (d + 1) b 131 [vR 4, vR t1, vR (g 4 4)] [] (stt g4) K
          refine aw_iconst (n := 1) (by decide +kernel) ?_
          exact aw_zret (by decide +kernel) rfl rfl hG
        · exact hG
    · have hG := hG.2 hc
      refine aw_iconst (n := 0) (by decide +kernel) ?_
      exact aw_zret (by decide +kernel) rfl rfl hG
  · exact hG

set_option maxHeartbeats 1000000 in
theorem wpX3_readMode {Γ : Cfg} {l : Launch} {d b : Nat} {g : GG} {K : Ou → HP → Prop} {t1 : Int} (ht1 : HI t1) (hF : Ct Γ l d 0 yX10_step mX10_step [vR 4] (stt g) (bV (fun g1 => Ct Γ l d 0 yX10_tells mX10_tells [vR 4, vI 0, vI 3] (stt g1) (bI (fun v1 g2 => (¬ wr v1 = 0 → Ct Γ l d 0 yX10_step mX10_step [vR 4] (stt g2) (bV (fun g3 => Ct Γ l d 0 yX10_tells mX10_tells [vR 4, vI 0, vI 2] (stt g3) (bI (fun v2 g4 => (¬ wr v2 = 0 → (∀ g5 : GG, g5 = puc g4 (t1 + 1 + 6) (g2 4 6) (g4 4 6) → Ct Γ l d 0 yX10_step mX10_step [vR 4] (stt g5) (bV (fun g6 => K (.inl (vI 1)) (stt g6)) K))) ∧ (¬ (¬ wr v2 = 0) → K (.inl (vI 0)) (stt g4))) K)) K)) ∧ (¬ (¬ wr v1 = 0) → K (.inl (vI 0)) (stt g2))) K)) K)) : Ct Γ l (d + 1) b yX3_readMode mX3_readMode [vR 4, vR t1] (stt g) K := by
  refine Ct.enter (L := [vR 4, vR t1, vU]) rfl rfl rfl (by decide +kernel) (by simp [oneSlot]) (Nat.le_of_ble_eq_true rfl) rfl ?_
  refine aw_aload_n (k' := 0) (by decide +kernel) rfl ?_
  refine aw_callV (y := yX10_step) (M2 := mX10_step) (as := []) (S := []) (t := 4) (d2 := d) (b2 := 0) (b3 := b) cwX10_step mlX3_29 imX10_step seX10_step (by decide +kernel) rfl (ci := 8) rfl (OB.at (ci := 8) (show shp 4 = (18, 0) by decide +kernel) (by decide)) (Nat.le_refl _) (Nat.le_of_eq (Nat.zero_add _)) rfl rfl (by simp [oneSlot]) (Nat.le_of_ble_eq_true rfl) (Ct.mono hF ?_)
  rintro o h' (⟨g1, rfl, rfl, hG⟩ | ⟨E, g, rfl, rfl, hG⟩)
  · show AW Γ l mX3_readMode (d + 1) b 4 [vR 4, vR t1, vU] [] (stt g1) K
    refine aw_aload_n (k' := 0) (by decide +kernel) rfl ?_
    refine aw_iconst (n := 0) (by decide +kernel) ?_
    refine aw_iconst (n := 3) (by decide +kernel) ?_
    refine aw_callV (y := yX10_tells) (M2 := mX10_tells) (as := [vI 0, vI 3]) (S := []) (t := 4) (d2 := d) (b2 := 0) (b3 := b) cwX10_tells mlX3_53 imX10_tells seX10_tells (by decide +kernel) rfl (ci := 8) rfl (OB.at (ci := 8) (show shp 4 = (18, 0) by decide +kernel) (by decide)) (Nat.le_refl _) (Nat.le_of_eq (Nat.zero_add _)) rfl rfl (by simp [oneSlot]) (Nat.le_of_ble_eq_true rfl) (Ct.mono hG ?_)
    rintro o h' (⟨v1, g2, rfl, rfl, hG⟩ | ⟨E, g, rfl, rfl, hG⟩)
    · show AW Γ l mX3_readMode (d + 1) b 10 [vR 4, vR t1, vU] [vI v1] (stt g2) K
      refine ax_if_ne (off := 5) (tgt := 15) (x' := wr v1) (by decide +kernel) (by decide) rfl (fun hc => ?_) (fun hc => ?_)
      · have hG := hG.1 hc
        refine aw_aload_n (k' := 0) (by decide +kernel) rfl ?_
        refine gfX3_57 rfl (by decide +kernel) (OB.at (ci := 8) (show shp 4 = (18, 0) by decide +kernel) (by decide)) ?_
        refine aw_istore_n (k' := 2) (by decide +kernel) (by decide) ?_
        show AW Γ l mX3_readMode (d + 1) b 20 [vR 4, vR t1, vI (g2 4 6)] [] (stt g2) K
        refine aw_aload_n (k' := 0) (by decide +kernel) rfl ?_
        refine aw_callV (y := yX10_step) (M2 := mX10_step) (as := []) (S := []) (t := 4) (d2 := d) (b2 := 0) (b3 := b) cwX10_step mlX3_29 imX10_step seX10_step (by decide +kernel) rfl (ci := 8) rfl (OB.at (ci := 8) (show shp 4 = (18, 0) by decide +kernel) (by decide)) (Nat.le_refl _) (Nat.le_of_eq (Nat.zero_add _)) rfl rfl (by simp [oneSlot]) (Nat.le_of_ble_eq_true rfl) (Ct.mono hG ?_)
        rintro o h' (⟨g3, rfl, rfl, hG⟩ | ⟨E, g, rfl, rfl, hG⟩)
        · show AW Γ l mX3_readMode (d + 1) b 24 [vR 4, vR t1, vI (g2 4 6)] [] (stt g3) K
          refine aw_aload_n (k' := 0) (by decide +kernel) rfl ?_
          refine aw_iconst (n := 0) (by decide +kernel) ?_
          refine aw_iconst (n := 2) (by decide +kernel) ?_
          refine aw_callV (y := yX10_tells) (M2 := mX10_tells) (as := [vI 0, vI 2]) (S := []) (t := 4) (d2 := d) (b2 := 0) (b3 := b) cwX10_tells mlX3_53 imX10_tells seX10_tells (by decide +kernel) rfl (ci := 8) rfl (OB.at (ci := 8) (show shp 4 = (18, 0) by decide +kernel) (by decide)) (Nat.le_refl _) (Nat.le_of_eq (Nat.zero_add _)) rfl rfl (by simp [oneSlot]) (Nat.le_of_ble_eq_true rfl) (Ct.mono hG ?_)
          rintro o h' (⟨v2, g4, rfl, rfl, hG⟩ | ⟨E, g, rfl, rfl, hG⟩)
          · show AW Γ l mX3_readMode (d + 1) b 30 [vR 4, vR t1, vI (g2 4 6)] [vI v2] (stt g4) K
            refine ax_if_ne (off := 5) (tgt := 35) (x' := wr v2) (by decide +kernel) (by decide) rfl (fun hc => ?_) (fun hc => ?_)
            · have hG := hG.1 hc
              refine aw_aload_n (k' := 1) (by decide +kernel) rfl ?_
              refine gfX3_72 rfl (by decide +kernel) (OB.at ht1.ob (by decide)) ?_
              refine AW.topR (ht1.r6) ?_
              refine aw_iload_n (k' := 2) (by decide +kernel) rfl ?_
              refine aw_aload_n (k' := 0) (by decide +kernel) rfl ?_
              refine gfX3_57 rfl (by decide +kernel) (OB.at (ci := 8) (show shp 4 = (18, 0) by decide +kernel) (by decide)) ?_
              refine aw_callSN (host := "HalfOaths") (y := yX11_put) (M2 := mX11_put) (as := [vR (t1 + 1 + 6), vI (g2 4 6), vI (g4 4 6)]) (S := []) (d2 := d) (b2 := 0) (b3 := b) cwX11_put mlX3_76 stX11_put (by decide +kernel) rfl (Nat.le_refl _) (Nat.le_of_eq (Nat.zero_add _)) rfl rfl (by simp [oneSlot]) (Nat.le_of_ble_eq_true rfl) (c_put (ht1.a6) ?_)
              show AW Γ l mX3_readMode (d + 1) b 47 [vR 4, vR t1, vI (g2 4 6)] [] (stt (puc g4 (t1 + 1 + 6) (g2 4 6) (g4 4 6))) K
              show AW Γ l mX3_readMode (d + 1) b 47 [vR 4, vR t1, vI (g2 4 6)] [] (stt (puc g4 (t1 + 1 + 6) (g2 4 6) (g4 4 6))) K
              generalize eg5 : puc g4 (t1 + 1 + 6) (g2 4 6) (g4 4 6) = g5
              replace hG := hG g5 eg5.symm
              refine aw_aload_n (k' := 0) (by decide +kernel) rfl ?_
              refine aw_callV (y := yX10_step) (M2 := mX10_step) (as := []) (S := []) (t := 4) (d2 := d) (b2 := 0) (b3 := b) cwX10_step mlX3_29 imX10_step seX10_step (by decide +kernel) rfl (ci := 8) rfl (OB.at (ci := 8) (show shp 4 = (18, 0) by decide +kernel) (by decide)) (Nat.le_refl _) (Nat.le_of_eq (Nat.zero_add _)) rfl rfl (by simp [oneSlot]) (Nat.le_of_ble_eq_true rfl) (Ct.mono hG ?_)
              rintro o h' (⟨g6, rfl, rfl, hG⟩ | ⟨E, g, rfl, rfl, hG⟩)
              · show AW Γ l mX3_readMode (d + 1) b 51 [vR 4, vR t1, vI (g2 4 6)] [] (stt g6) K
                refine aw_iconst (n := 1) (by decide +kernel) ?_
                exact aw_zret (by decide +kernel) rfl rfl hG
              · exact hG
            · have hG := hG.2 hc
              refine aw_iconst (n := 0) (by decide +kernel) ?_
              exact aw_zret (by decide +kernel) rfl rfl hG
          · exact hG
        · exact hG
      · have hG := hG.2 hc
        refine aw_iconst (n := 0) (by decide +kernel) ?_
        exact aw_zret (by decide +kernel) rfl rfl hG
    · exact hG
  · exact hG

set_option maxHeartbeats 1000000 in
theorem wpX3_readOath {Γ : Cfg} {l : Launch} {d b : Nat} {g : GG} {K : Ou → HP → Prop} {t1 : Int} (ht1 : HI t1) (hF : (wr (g t1 8) < 6 → Ct Γ l d 0 yX10_step mX10_step [vR 4] (stt g) (bV (fun g1 => Ct Γ l d 0 yX3_readWords mX3_readWords [vR 4, vR t1, vI (g t1 8)] (stt g1) (bI (fun v1 g2 => (¬ wr v1 = 0 → (∀ g3 : GG, g3 = puc (puc g2 (t1 + 1 + 2) (g t1 8) 1) (t1 + 1 + 3) (g t1 8) 0 → Ct Γ l d 0 yX2_settle mX2_settle [vR t1, vI (g t1 8), vI 0, vI 0] (stt g3) (bV (fun g4 => Ct Γ l d 0 yX3_readExtra mX3_readExtra [vR 4, vR 1011, vI 1, vR (t1 + 1 + 2), vI (g t1 8)] (stt (upd2 g4 t1 8 ((g4 t1 8) + 1))) (bI (fun v2 g5 => (wr v2 = 0 → K (.inl (vI 0)) (stt g5)) ∧ (¬ (wr v2 = 0) → Ct Γ l d 0 yX3_readExtra mX3_readExtra [vR 4, vR 1012, vI 0, vR (t1 + 1 + 3), vI (g t1 8)] (stt g5) (bI (fun v3 g6 => (wr v3 = 0 → K (.inl (vI 0)) (stt g6)) ∧ (¬ (wr v3 = 0) → K (.inl (vI 1)) (stt g6))) K))) K)) K))) ∧ (¬ (¬ wr v1 = 0) → K (.inl (vI 0)) (stt g2))) K)) K)) ∧ (¬ (wr (g t1 8) < 6) → K (.inl (vI 0)) (stt g))) : Ct Γ l (d + 1) b yX3_readOath mX3_readOath [vR 4, vR t1] (stt g) K := by
  refine Ct.enter (L := [vR 4, vR t1, vU]) rfl rfl rfl (by decide +kernel) (by simp [oneSlot]) (Nat.le_of_ble_eq_true rfl) rfl ?_
  refine aw_aload_n (k' := 1) (by decide +kernel) rfl ?_
  refine gfX3_80 rfl (by decide +kernel) (OB.at ht1.ob (by decide)) ?_
  refine aw_istore_n (k' := 2) (by decide +kernel) (by decide) ?_
  show AW Γ l mX3_readOath (d + 1) b 5 [vR 4, vR t1, vI (g t1 8)] [] (stt g) K
  refine aw_iload_n (k' := 2) (by decide +kernel) rfl ?_
  refine aw_bipush (n := 6) (by decide +kernel) (by decide +kernel) ?_
  refine ax_icmp_lt (off := 5) (tgt := 13) (x' := wr (g t1 8)) (y' := 6) (by decide +kernel) (by decide) rfl (by decide +kernel) (fun hc => ?_) (fun hc => ?_)
  · have hF := hF.1 hc
    refine aw_aload_n (k' := 0) (by decide +kernel) rfl ?_
    refine aw_callV (y := yX10_step) (M2 := mX10_step) (as := []) (S := []) (t := 4) (d2 := d) (b2 := 0) (b3 := b) cwX10_step mlX3_29 imX10_step seX10_step (by decide +kernel) rfl (ci := 8) rfl (OB.at (ci := 8) (show shp 4 = (18, 0) by decide +kernel) (by decide)) (Nat.le_refl _) (Nat.le_of_eq (Nat.zero_add _)) rfl rfl (by simp [oneSlot]) (Nat.le_of_ble_eq_true rfl) (Ct.mono hF ?_)
    rintro o h' (⟨g1, rfl, rfl, hG⟩ | ⟨E, g, rfl, rfl, hG⟩)
    · show AW Γ l mX3_readOath (d + 1) b 17 [vR 4, vR t1, vI (g t1 8)] [] (stt g1) K
      refine aw_aload_n (k' := 0) (by decide +kernel) rfl ?_
      refine aw_aload_n (k' := 1) (by decide +kernel) rfl ?_
      refine aw_iload_n (k' := 2) (by decide +kernel) rfl ?_
      refine aw_callS (y := yX3_readWords) (M2 := mX3_readWords) (as := [vR 4, vR t1, vI (g t1 8)]) (S := []) (d2 := d) (b2 := 0) (b3 := b) cwX3_readWords mlX3_83 stX3_readWords (by decide +kernel) rfl (Nat.le_refl _) (Nat.le_of_eq (Nat.zero_add _)) rfl rfl (by simp [oneSlot]) (Nat.le_of_ble_eq_true rfl) (Ct.mono hG ?_)
      rintro o h' (⟨v1, g2, rfl, rfl, hG⟩ | ⟨E, g, rfl, rfl, hG⟩)
      · show AW Γ l mX3_readOath (d + 1) b 23 [vR 4, vR t1, vI (g t1 8)] [vI v1] (stt g2) K
        refine ax_if_ne (off := 5) (tgt := 28) (x' := wr v1) (by decide +kernel) (by decide) rfl (fun hc => ?_) (fun hc => ?_)
        · have hG := hG.1 hc
          refine aw_aload_n (k' := 1) (by decide +kernel) rfl ?_
          refine gfX3_87 rfl (by decide +kernel) (OB.at ht1.ob (by decide)) ?_
          refine AW.topR (ht1.r2) ?_
          refine aw_iload_n (k' := 2) (by decide +kernel) rfl ?_
          refine aw_iconst (n := 1) (by decide +kernel) ?_
          refine aw_callSN (host := "HalfOaths") (y := yX11_put) (M2 := mX11_put) (as := [vR (t1 + 1 + 2), vI (g t1 8), vI 1]) (S := []) (d2 := d) (b2 := 0) (b3 := b) cwX11_put mlX3_76 stX11_put (by decide +kernel) rfl (Nat.le_refl _) (Nat.le_of_eq (Nat.zero_add _)) rfl rfl (by simp [oneSlot]) (Nat.le_of_ble_eq_true rfl) (c_put (ht1.a2) ?_)
          show AW Γ l mX3_readOath (d + 1) b 37 [vR 4, vR t1, vI (g t1 8)] [] (stt (puc g2 (t1 + 1 + 2) (g t1 8) 1)) K
          refine aw_aload_n (k' := 1) (by decide +kernel) rfl ?_
          refine gfX3_90 rfl (by decide +kernel) (OB.at ht1.ob (by decide)) ?_
          refine AW.topR (ht1.r3) ?_
          refine aw_iload_n (k' := 2) (by decide +kernel) rfl ?_
          refine aw_iconst (n := 0) (by decide +kernel) ?_
          refine aw_callSN (host := "HalfOaths") (y := yX11_put) (M2 := mX11_put) (as := [vR (t1 + 1 + 3), vI (g t1 8), vI 0]) (S := []) (d2 := d) (b2 := 0) (b3 := b) cwX11_put mlX3_76 stX11_put (by decide +kernel) rfl (Nat.le_refl _) (Nat.le_of_eq (Nat.zero_add _)) rfl rfl (by simp [oneSlot]) (Nat.le_of_ble_eq_true rfl) (c_put (ht1.a3) ?_)
          show AW Γ l mX3_readOath (d + 1) b 46 [vR 4, vR t1, vI (g t1 8)] [] (stt (puc (puc g2 (t1 + 1 + 2) (g t1 8) 1) (t1 + 1 + 3) (g t1 8) 0)) K
          show AW Γ l mX3_readOath (d + 1) b 46 [vR 4, vR t1, vI (g t1 8)] [] (stt (puc (puc g2 (t1 + 1 + 2) (g t1 8) 1) (t1 + 1 + 3) (g t1 8) 0)) K
          generalize eg3 : puc (puc g2 (t1 + 1 + 2) (g t1 8) 1) (t1 + 1 + 3) (g t1 8) 0 = g3
          replace hG := hG g3 eg3.symm
          refine aw_aload_n (k' := 1) (by decide +kernel) rfl ?_
          refine aw_iload_n (k' := 2) (by decide +kernel) rfl ?_
          refine aw_iconst (n := 0) (by decide +kernel) ?_
          refine aw_iconst (n := 0) (by decide +kernel) ?_
          refine aw_callV (y := yX2_settle) (M2 := mX2_settle) (as := [vI (g t1 8), vI 0, vI 0]) (S := []) (t := t1) (d2 := d) (b2 := 0) (b3 := b) cwX2_settle mlX3_93 imX2_settle seX2_settle (by decide +kernel) rfl (ci := 2) rfl (OB.at ht1.ob (by decide)) (Nat.le_refl _) (Nat.le_of_eq (Nat.zero_add _)) rfl rfl (by simp [oneSlot]) (Nat.le_of_ble_eq_true rfl) (Ct.mono hG ?_)
          rintro o h' (⟨g4, rfl, rfl, hG⟩ | ⟨E, g, rfl, rfl, hG⟩)
          · show AW Γ l mX3_readOath (d + 1) b 53 [vR 4, vR t1, vI (g t1 8)] [] (stt g4) K
            refine aw_aload_n (k' := 1) (by decide +kernel) rfl ?_
            refine aw_dup (by decide +kernel) trivial ?_
            refine gfX3_80 rfl (by decide +kernel) (OB.at ht1.ob (by decide)) ?_
            refine aw_iconst (n := 1) (by decide +kernel) ?_
            refine aw_iadd (by decide +kernel) ?_
            refine pfX3_80 rfl (by decide +kernel) (OB.at ht1.ob (by decide)) ?_
            show AW Γ l mX3_readOath (d + 1) b 63 [vR 4, vR t1, vI (g t1 8)] [] (stt (upd2 g4 t1 8 ((g4 t1 8) + 1))) K
            refine aw_aload_n (k' := 0) (by decide +kernel) rfl ?_
            refine aw_sign' (idx := 97) (i := 11) (r := 1011) (by decide +kernel) (by decide) (by decide) (fun hown hts hnw => Or.inl (hts _ (tm3 218 (by decide +kernel) (by decide +kernel)))) ?_
            refine aw_iconst (n := 1) (by decide +kernel) ?_
            refine aw_aload_n (k' := 1) (by decide +kernel) rfl ?_
            refine gfX3_87 rfl (by decide +kernel) (OB.at ht1.ob (by decide)) ?_
            refine AW.topR (ht1.r2) ?_
            refine aw_iload_n (k' := 2) (by decide +kernel) rfl ?_
            refine aw_callS (y := yX3_readExtra) (M2 := mX3_readExtra) (as := [vR 4, vR 1011, vI 1, vR (t1 + 1 + 2), vI (g t1 8)]) (S := []) (d2 := d) (b2 := 0) (b3 := b) cwX3_readExtra mlX3_100 stX3_readExtra (by decide +kernel) rfl (Nat.le_refl _) (Nat.le_of_eq (Nat.zero_add _)) rfl rfl (by simp [oneSlot]) (Nat.le_of_ble_eq_true rfl) (Ct.mono hG ?_)
            rintro o h' (⟨v2, g5, rfl, rfl, hG⟩ | ⟨E, g, rfl, rfl, hG⟩)
            · show AW Γ l mX3_readOath (d + 1) b 76 [vR 4, vR t1, vI (g t1 8)] [vI v2] (stt g5) K
              refine ax_if_eq (off := 23) (tgt := 99) (x' := wr v2) (by decide +kernel) (by decide) rfl (fun hc => ?_) (fun hc => ?_)
              · have hG := hG.1 hc
                refine aw_iconst (n := 0) (by decide +kernel) ?_
                exact aw_zret (by decide +kernel) rfl rfl hG
              · have hG := hG.2 hc
                refine aw_aload_n (k' := 0) (by decide +kernel) rfl ?_
                refine aw_sign' (idx := 104) (i := 12) (r := 1012) (by decide +kernel) (by decide) (by decide) (fun hown hts hnw => Or.inl (hts _ (tm3 223 (by decide +kernel) (by decide +kernel)))) ?_
                refine aw_iconst (n := 0) (by decide +kernel) ?_
                refine aw_aload_n (k' := 1) (by decide +kernel) rfl ?_
                refine gfX3_90 rfl (by decide +kernel) (OB.at ht1.ob (by decide)) ?_
                refine AW.topR (ht1.r3) ?_
                refine aw_iload_n (k' := 2) (by decide +kernel) rfl ?_
                refine aw_callS (y := yX3_readExtra) (M2 := mX3_readExtra) (as := [vR 4, vR 1012, vI 0, vR (t1 + 1 + 3), vI (g t1 8)]) (S := []) (d2 := d) (b2 := 0) (b3 := b) cwX3_readExtra mlX3_100 stX3_readExtra (by decide +kernel) rfl (Nat.le_refl _) (Nat.le_of_eq (Nat.zero_add _)) rfl rfl (by simp [oneSlot]) (Nat.le_of_ble_eq_true rfl) (Ct.mono hG ?_)
                rintro o h' (⟨v3, g6, rfl, rfl, hG⟩ | ⟨E, g, rfl, rfl, hG⟩)
                · show AW Γ l mX3_readOath (d + 1) b 92 [vR 4, vR t1, vI (g t1 8)] [vI v3] (stt g6) K
                  refine ax_if_eq (off := 7) (tgt := 99) (x' := wr v3) (by decide +kernel) (by decide) rfl (fun hc => ?_) (fun hc => ?_)
                  · have hG := hG.1 hc
                    refine aw_iconst (n := 0) (by decide +kernel) ?_
                    exact aw_zret (by decide +kernel) rfl rfl hG
                  · have hG := hG.2 hc
                    refine aw_iconst (n := 1) (by decide +kernel) ?_
                    refine aw_goto (off := 4) (tgt := 100) (by decide +kernel) (by decide) ?_
                    exact aw_zret (by decide +kernel) rfl rfl hG
                · exact hG
            · exact hG
          · exact hG
        · have hG := hG.2 hc
          refine aw_iconst (n := 0) (by decide +kernel) ?_
          exact aw_zret (by decide +kernel) rfl rfl hG
      · exact hG
    · exact hG
  · have hF := hF.2 hc
    refine aw_iconst (n := 0) (by decide +kernel) ?_
    exact aw_zret (by decide +kernel) rfl rfl hF

set_option maxHeartbeats 1000000 in
theorem wpX3_readExtra {Γ : Cfg} {l : Launch} {d b : Nat} {g : GG} {K : Ou → HP → Prop} {t1 : Int} (ht1 : SG t1) {x2 : Int} {r3 : Int} (hr3 : IA r3) {x4 : Int} (hF : (SG (g 4 4)) ∧ ((g 4 4 = t1 → Ct Γ l d 0 yX10_step mX10_step [vR 4] (stt g) (bV (fun g1 => Ct Γ l d 0 yX10_tells mX10_tells [vR 4, vI x2, vI 9] (stt g1) (bI (fun v1 g2 => (¬ wr v1 = 0 → Ct Γ l d 0 yX10_step mX10_step [vR 4] (stt (puc g2 r3 x4 (g2 4 6))) (bV (fun g3 => K (.inl (vI 1)) (stt g3)) K)) ∧ (¬ (¬ wr v1 = 0) → K (.inl (vI 0)) (stt g2))) K)) K)) ∧ (¬ g 4 4 = t1 → K (.inl (vI 1)) (stt g)))) : Ct Γ l (d + 1) b yX3_readExtra mX3_readExtra [vR 4, vR t1, vI x2, vR r3, vI x4] (stt g) K := by
  refine Ct.enter (L := [vR 4, vR t1, vI x2, vR r3, vI x4]) rfl rfl rfl (by decide +kernel) (by simp [oneSlot]) (Nat.le_of_ble_eq_true rfl) rfl ?_
  refine aw_aload_n (k' := 0) (by decide +kernel) rfl ?_
  refine gfX3_9 rfl (by decide +kernel) (OB.at (ci := 8) (show shp 4 = (18, 0) by decide +kernel) (by decide)) ?_
  refine aw_aload_n (k' := 1) (by decide +kernel) rfl ?_
  refine aw_sacmp_eq (off := 5) (tgt := 10) (by decide +kernel) (by decide) hF.1 ht1 (fun hc => ?_) (fun hc => ?_)
  all_goals replace hF := hF.2
  · have hF := hF.1 hc
    refine aw_aload_n (k' := 0) (by decide +kernel) rfl ?_
    refine aw_callV (y := yX10_step) (M2 := mX10_step) (as := []) (S := []) (t := 4) (d2 := d) (b2 := 0) (b3 := b) cwX10_step mlX3_29 imX10_step seX10_step (by decide +kernel) rfl (ci := 8) rfl (OB.at (ci := 8) (show shp 4 = (18, 0) by decide +kernel) (by decide)) (Nat.le_refl _) (Nat.le_of_eq (Nat.zero_add _)) rfl rfl (by simp [oneSlot]) (Nat.le_of_ble_eq_true rfl) (Ct.mono hF ?_)
    rintro o h' (⟨g1, rfl, rfl, hG⟩ | ⟨E, g, rfl, rfl, hG⟩)
    · show AW Γ l mX3_readExtra (d + 1) b 14 [vR 4, vR t1, vI x2, vR r3, vI x4] [] (stt g1) K
      refine aw_aload_n (k' := 0) (by decide +kernel) rfl ?_
      refine aw_iload_n (k' := 2) (by decide +kernel) rfl ?_
      refine aw_bipush (n := 9) (by decide +kernel) (by decide +kernel) ?_
      refine aw_callV (y := yX10_tells) (M2 := mX10_tells) (as := [vI x2, vI 9]) (S := []) (t := 4) (d2 := d) (b2 := 0) (b3 := b) cwX10_tells mlX3_53 imX10_tells seX10_tells (by decide +kernel) rfl (ci := 8) rfl (OB.at (ci := 8) (show shp 4 = (18, 0) by decide +kernel) (by decide)) (Nat.le_refl _) (Nat.le_of_eq (Nat.zero_add _)) rfl rfl (by simp [oneSlot]) (Nat.le_of_ble_eq_true rfl) (Ct.mono hG ?_)
      rintro o h' (⟨v1, g2, rfl, rfl, hG⟩ | ⟨E, g, rfl, rfl, hG⟩)
      · show AW Γ l mX3_readExtra (d + 1) b 21 [vR 4, vR t1, vI x2, vR r3, vI x4] [vI v1] (stt g2) K
        refine ax_if_ne (off := 5) (tgt := 26) (x' := wr v1) (by decide +kernel) (by decide) rfl (fun hc => ?_) (fun hc => ?_)
        · have hG := hG.1 hc
          refine aw_aload_n (k' := 3) (by decide +kernel) rfl ?_
          refine aw_iload (i := 4) (by decide +kernel) rfl ?_
          refine aw_aload_n (k' := 0) (by decide +kernel) rfl ?_
          refine gfX3_57 rfl (by decide +kernel) (OB.at (ci := 8) (show shp 4 = (18, 0) by decide +kernel) (by decide)) ?_
          refine aw_callSN (host := "HalfOaths") (y := yX11_put) (M2 := mX11_put) (as := [vR r3, vI x4, vI (g2 4 6)]) (S := []) (d2 := d) (b2 := 0) (b3 := b) cwX11_put mlX3_76 stX11_put (by decide +kernel) rfl (Nat.le_refl _) (Nat.le_of_eq (Nat.zero_add _)) rfl rfl (by simp [oneSlot]) (Nat.le_of_ble_eq_true rfl) (c_put hr3 ?_)
          show AW Γ l mX3_readExtra (d + 1) b 36 [vR 4, vR t1, vI x2, vR r3, vI x4] [] (stt (puc g2 r3 x4 (g2 4 6))) K
          refine aw_aload_n (k' := 0) (by decide +kernel) rfl ?_
          refine aw_callV (y := yX10_step) (M2 := mX10_step) (as := []) (S := []) (t := 4) (d2 := d) (b2 := 0) (b3 := b) cwX10_step mlX3_29 imX10_step seX10_step (by decide +kernel) rfl (ci := 8) rfl (OB.at (ci := 8) (show shp 4 = (18, 0) by decide +kernel) (by decide)) (Nat.le_refl _) (Nat.le_of_eq (Nat.zero_add _)) rfl rfl (by simp [oneSlot]) (Nat.le_of_ble_eq_true rfl) (Ct.mono hG ?_)
          rintro o h' (⟨g3, rfl, rfl, hG⟩ | ⟨E, g, rfl, rfl, hG⟩)
          · show AW Γ l mX3_readExtra (d + 1) b 40 [vR 4, vR t1, vI x2, vR r3, vI x4] [] (stt g3) K
            refine aw_iconst (n := 1) (by decide +kernel) ?_
            exact aw_zret (by decide +kernel) rfl rfl hG
          · exact hG
        · have hG := hG.2 hc
          refine aw_iconst (n := 0) (by decide +kernel) ?_
          exact aw_zret (by decide +kernel) rfl rfl hG
      · exact hG
    · exact hG
  · have hF := hF.2 hc
    refine aw_iconst (n := 1) (by decide +kernel) ?_
    exact aw_zret (by decide +kernel) rfl rfl hF

set_option maxHeartbeats 1000000 in
theorem wpX3_readWords {Γ : Cfg} {l : Launch} {d b : Nat} {g : GG} {K : Ou → HP → Prop} {t1 : Int} (ht1 : HI t1) {x2 : Int} (hF : AW Γ l mX3_readWords (d + 1) b 5 [vR 4, vR t1, vI x2, vI 0, vI 0, vU, vU] [] (stt g) K) : Ct Γ l (d + 1) b yX3_readWords mX3_readWords [vR 4, vR t1, vI x2] (stt g) K := by
  refine Ct.enter (L := [vR 4, vR t1, vI x2, vU, vU, vU, vU]) rfl rfl rfl (by decide +kernel) (by simp [oneSlot]) (Nat.le_of_ble_eq_true rfl) rfl ?_
  refine aw_iconst (n := 0) (by decide +kernel) ?_
  refine aw_istore_n (k' := 3) (by decide +kernel) (by decide) ?_
  show AW Γ l mX3_readWords (d + 1) b 2 [vR 4, vR t1, vI x2, vI 0, vU, vU, vU] [] (stt g) K
  refine aw_iconst (n := 0) (by decide +kernel) ?_
  refine aw_istore (i := 4) (by decide +kernel) (by decide) ?_
  show AW Γ l mX3_readWords (d + 1) b 5 [vR 4, vR t1, vI x2, vI 0, vI 0, vU, vU] [] (stt g) K
  exact hF
set_option maxHeartbeats 1000000 in
theorem wpX3_readWords_5 {Γ : Cfg} {l : Launch} {d b : Nat} {g : GG} {K : Ou → HP → Prop} {t1 : Int} (ht1 : HI t1) {x2 : Int} {y3 : Int} {y4 : Int} (hF : (12 ≤ wr y3 → (wr y3 ≤ 0 → K (.inl (vI 0)) (stt (puc g (t1 + 1 + 1) x2 y3))) ∧ (¬ (wr y3 ≤ 0) → (¬ wr y4 = 0 → K (.inl (vI 0)) (stt (puc g (t1 + 1 + 1) x2 y3))) ∧ (¬ (¬ wr y4 = 0) → (SG ((puc g (t1 + 1 + 1) x2 y3) 4 4)) ∧ ((¬ wr (sgK ((puc g (t1 + 1 + 1) x2 y3) 4 4)) = -1 → K (.inl (vI 0)) (stt (puc g (t1 + 1 + 1) x2 y3))) ∧ (¬ (¬ wr (sgK ((puc g (t1 + 1 + 1) x2 y3) 4 4)) = -1) → K (.inl (vI 1)) (stt (puc g (t1 + 1 + 1) x2 y3))))))) ∧ (¬ (12 ≤ wr y3) → (SG (g 4 4)) ∧ ((wr (sgK (g 4 4)) = -1 → (wr y3 ≤ 0 → K (.inl (vI 0)) (stt (puc g (t1 + 1 + 1) x2 y3))) ∧ (¬ (wr y3 ≤ 0) → (¬ wr y4 = 0 → K (.inl (vI 0)) (stt (puc g (t1 + 1 + 1) x2 y3))) ∧ (¬ (¬ wr y4 = 0) → (SG ((puc g (t1 + 1 + 1) x2 y3) 4 4)) ∧ ((¬ wr (sgK ((puc g (t1 + 1 + 1) x2 y3) 4 4)) = -1 → K (.inl (vI 0)) (stt (puc g (t1 + 1 + 1) x2 y3))) ∧ (¬ (¬ wr (sgK ((puc g (t1 + 1 + 1) x2 y3) 4 4)) = -1) → K (.inl (vI 1)) (stt (puc g (t1 + 1 + 1) x2 y3))))))) ∧ (¬ (wr (sgK (g 4 4)) = -1) → (SG (g 4 4)) ∧ ((¬ wr (sgK (g 4 4)) = 9 → AW Γ l mX3_readWords (d + 1) b 43 [vR 4, vR t1, vI x2, vI y3, vI y4, vI (sgK (g 4 4)), vU] [] (stt g) K) ∧ (¬ (¬ wr (sgK (g 4 4)) = 9) → (wr y4 = 0 → AW Γ l mX3_readWords (d + 1) b 56 [vR 4, vR t1, vI x2, vI y3, vI y4, vI (sgK (g 4 4)), vU] [] (stt g) K) ∧ (¬ (wr y4 = 0) → AW Γ l mX3_readWords (d + 1) b 43 [vR 4, vR t1, vI x2, vI y3, vI y4, vI (sgK (g 4 4)), vU] [] (stt g) K))))))) : AW Γ l mX3_readWords (d + 1) b 5 [vR 4, vR t1, vI x2, vI y3, vI y4, vU, vU] [] (stt g) K := by
  refine aw_iload_n (k' := 3) (by decide +kernel) rfl ?_
  refine aw_bipush (n := 12) (by decide +kernel) (by decide +kernel) ?_
  refine ax_icmp_ge (off := 160) (tgt := 168) (x' := wr y3) (y' := 12) (by decide +kernel) (by decide) rfl (by decide +kernel) (fun hc => ?_) (fun hc => ?_)
  · have hF := hF.1 hc
    refine aw_aload_n (k' := 1) (by decide +kernel) rfl ?_
    refine gfX3_113 rfl (by decide +kernel) (OB.at ht1.ob (by decide)) ?_
    refine AW.topR (ht1.r1) ?_
    refine aw_iload_n (k' := 2) (by decide +kernel) rfl ?_
    refine aw_iload_n (k' := 3) (by decide +kernel) rfl ?_
    refine aw_callSN (host := "HalfOaths") (y := yX11_put) (M2 := mX11_put) (as := [vR (t1 + 1 + 1), vI x2, vI y3]) (S := []) (d2 := d) (b2 := 0) (b3 := b) cwX11_put mlX3_76 stX11_put (by decide +kernel) rfl (Nat.le_refl _) (Nat.le_of_eq (Nat.zero_add _)) rfl rfl (by simp [oneSlot]) (Nat.le_of_ble_eq_true rfl) (c_put (ht1.a1) ?_)
    show AW Γ l mX3_readWords (d + 1) b 177 [vR 4, vR t1, vI x2, vI y3, vI y4, vU, vU] [] (stt (puc g (t1 + 1 + 1) x2 y3)) K
    refine aw_iload_n (k' := 3) (by decide +kernel) rfl ?_
    refine ax_if_le (off := 23) (tgt := 201) (x' := wr y3) (by decide +kernel) (by decide) rfl (fun hc => ?_) (fun hc => ?_)
    · have hF := hF.1 hc
      refine aw_iconst (n := 0) (by decide +kernel) ?_
      exact aw_zret (by decide +kernel) rfl rfl hF
    · have hF := hF.2 hc
      refine aw_iload (i := 4) (by decide +kernel) rfl ?_
      refine ax_if_ne (off := 18) (tgt := 201) (x' := wr y4) (by decide +kernel) (by decide) rfl (fun hc => ?_) (fun hc => ?_)
      · have hF := hF.1 hc
        refine aw_iconst (n := 0) (by decide +kernel) ?_
        exact aw_zret (by decide +kernel) rfl rfl hF
      · have hF := hF.2 hc
        refine aw_aload_n (k' := 0) (by decide +kernel) rfl ?_
        refine gfX3_9 rfl (by decide +kernel) (OB.at (ci := 8) (show shp 4 = (18, 0) by decide +kernel) (by decide)) ?_
        refine aw_stf (idx := 107) (v := vI (sgK ((puc g (t1 + 1 + 1) x2 y3) 4 4))) (hF.1).1 (fun hS => ofSGk hF.1 hS) (fun hown hts hnw => Or.inr ⟨"HalfOaths", va_Nw.use rfl (hnw _ (tn9 134 (by decide +kernel) (by decide +kernel)))⟩) (by decide +kernel) ?_
        replace hF := hF.2
        refine aw_iconst (n := -1) (by decide +kernel) ?_
        refine ax_icmp_ne (off := 7) (tgt := 201) (x' := wr (sgK ((puc g (t1 + 1 + 1) x2 y3) 4 4))) (y' := -1) (by decide +kernel) (by decide) rfl (by decide +kernel) (fun hc => ?_) (fun hc => ?_)
        · have hF := hF.1 hc
          refine aw_iconst (n := 0) (by decide +kernel) ?_
          exact aw_zret (by decide +kernel) rfl rfl hF
        · have hF := hF.2 hc
          refine aw_iconst (n := 1) (by decide +kernel) ?_
          refine aw_goto (off := 4) (tgt := 202) (by decide +kernel) (by decide) ?_
          exact aw_zret (by decide +kernel) rfl rfl hF
  · have hF := hF.2 hc
    refine aw_aload_n (k' := 0) (by decide +kernel) rfl ?_
    refine gfX3_9 rfl (by decide +kernel) (OB.at (ci := 8) (show shp 4 = (18, 0) by decide +kernel) (by decide)) ?_
    refine aw_stf (idx := 107) (v := vI (sgK (g 4 4))) (hF.1).1 (fun hS => ofSGk hF.1 hS) (fun hown hts hnw => Or.inr ⟨"HalfOaths", va_Nw.use rfl (hnw _ (tn9 134 (by decide +kernel) (by decide +kernel)))⟩) (by decide +kernel) ?_
    replace hF := hF.2
    refine aw_iconst (n := -1) (by decide +kernel) ?_
    refine ax_icmp_eq (off := 149) (tgt := 168) (x' := wr (sgK (g 4 4))) (y' := -1) (by decide +kernel) (by decide) rfl (by decide +kernel) (fun hc => ?_) (fun hc => ?_)
    · have hF := hF.1 hc
      refine aw_aload_n (k' := 1) (by decide +kernel) rfl ?_
      refine gfX3_113 rfl (by decide +kernel) (OB.at ht1.ob (by decide)) ?_
      refine AW.topR (ht1.r1) ?_
      refine aw_iload_n (k' := 2) (by decide +kernel) rfl ?_
      refine aw_iload_n (k' := 3) (by decide +kernel) rfl ?_
      refine aw_callSN (host := "HalfOaths") (y := yX11_put) (M2 := mX11_put) (as := [vR (t1 + 1 + 1), vI x2, vI y3]) (S := []) (d2 := d) (b2 := 0) (b3 := b) cwX11_put mlX3_76 stX11_put (by decide +kernel) rfl (Nat.le_refl _) (Nat.le_of_eq (Nat.zero_add _)) rfl rfl (by simp [oneSlot]) (Nat.le_of_ble_eq_true rfl) (c_put (ht1.a1) ?_)
      show AW Γ l mX3_readWords (d + 1) b 177 [vR 4, vR t1, vI x2, vI y3, vI y4, vU, vU] [] (stt (puc g (t1 + 1 + 1) x2 y3)) K
      refine aw_iload_n (k' := 3) (by decide +kernel) rfl ?_
      refine ax_if_le (off := 23) (tgt := 201) (x' := wr y3) (by decide +kernel) (by decide) rfl (fun hc => ?_) (fun hc => ?_)
      · have hF := hF.1 hc
        refine aw_iconst (n := 0) (by decide +kernel) ?_
        exact aw_zret (by decide +kernel) rfl rfl hF
      · have hF := hF.2 hc
        refine aw_iload (i := 4) (by decide +kernel) rfl ?_
        refine ax_if_ne (off := 18) (tgt := 201) (x' := wr y4) (by decide +kernel) (by decide) rfl (fun hc => ?_) (fun hc => ?_)
        · have hF := hF.1 hc
          refine aw_iconst (n := 0) (by decide +kernel) ?_
          exact aw_zret (by decide +kernel) rfl rfl hF
        · have hF := hF.2 hc
          refine aw_aload_n (k' := 0) (by decide +kernel) rfl ?_
          refine gfX3_9 rfl (by decide +kernel) (OB.at (ci := 8) (show shp 4 = (18, 0) by decide +kernel) (by decide)) ?_
          refine aw_stf (idx := 107) (v := vI (sgK ((puc g (t1 + 1 + 1) x2 y3) 4 4))) (hF.1).1 (fun hS => ofSGk hF.1 hS) (fun hown hts hnw => Or.inr ⟨"HalfOaths", va_Nw.use rfl (hnw _ (tn9 134 (by decide +kernel) (by decide +kernel)))⟩) (by decide +kernel) ?_
          replace hF := hF.2
          refine aw_iconst (n := -1) (by decide +kernel) ?_
          refine ax_icmp_ne (off := 7) (tgt := 201) (x' := wr (sgK ((puc g (t1 + 1 + 1) x2 y3) 4 4))) (y' := -1) (by decide +kernel) (by decide) rfl (by decide +kernel) (fun hc => ?_) (fun hc => ?_)
          · have hF := hF.1 hc
            refine aw_iconst (n := 0) (by decide +kernel) ?_
            exact aw_zret (by decide +kernel) rfl rfl hF
          · have hF := hF.2 hc
            refine aw_iconst (n := 1) (by decide +kernel) ?_
            refine aw_goto (off := 4) (tgt := 202) (by decide +kernel) (by decide) ?_
            exact aw_zret (by decide +kernel) rfl rfl hF
    · have hF := hF.2 hc
      refine aw_aload_n (k' := 0) (by decide +kernel) rfl ?_
      refine gfX3_9 rfl (by decide +kernel) (OB.at (ci := 8) (show shp 4 = (18, 0) by decide +kernel) (by decide)) ?_
      refine aw_stf (idx := 107) (v := vI (sgK (g 4 4))) (hF.1).1 (fun hS => ofSGk hF.1 hS) (fun hown hts hnw => Or.inr ⟨"HalfOaths", va_Nw.use rfl (hnw _ (tn9 134 (by decide +kernel) (by decide +kernel)))⟩) (by decide +kernel) ?_
      replace hF := hF.2
      refine aw_istore (i := 5) (by decide +kernel) (by decide) ?_
      show AW Γ l mX3_readWords (d + 1) b 31 [vR 4, vR t1, vI x2, vI y3, vI y4, vI (sgK (g 4 4)), vU] [] (stt g) K
      refine aw_iload (i := 5) (by decide +kernel) rfl ?_
      refine aw_bipush (n := 9) (by decide +kernel) (by decide +kernel) ?_
      refine ax_icmp_ne (off := 8) (tgt := 43) (x' := wr (sgK (g 4 4))) (y' := 9) (by decide +kernel) (by decide) rfl (by decide +kernel) (fun hc => ?_) (fun hc => ?_)
      · have hF := hF.1 hc
        exact hF
      · have hF := hF.2 hc
        refine aw_iload (i := 4) (by decide +kernel) rfl ?_
        refine ax_if_eq (off := 16) (tgt := 56) (x' := wr y4) (by decide +kernel) (by decide) rfl (fun hc => ?_) (fun hc => ?_)
        · have hF := hF.1 hc
          exact hF
        · have hF := hF.2 hc
          exact hF
set_option maxHeartbeats 1000000 in
theorem wpX3_readWords_43 {Γ : Cfg} {l : Launch} {d b : Nat} {g : GG} {K : Ou → HP → Prop} {t1 : Int} (ht1 : HI t1) {x2 : Int} {y3 : Int} {y4 : Int} {y5 : Int} (hF : (¬ wr y5 = 8 → AW Γ l mX3_readWords (d + 1) b 58 [vR 4, vR t1, vI x2, vI y3, vI y4, vI y5, vU] [] (stt g) K) ∧ (¬ (¬ wr y5 = 8) → (¬ wr y4 = 3 → AW Γ l mX3_readWords (d + 1) b 58 [vR 4, vR t1, vI x2, vI y3, vI y4, vI y5, vU] [] (stt g) K) ∧ (¬ (¬ wr y4 = 3) → AW Γ l mX3_readWords (d + 1) b 56 [vR 4, vR t1, vI x2, vI y3, vI y4, vI y5, vU] [] (stt g) K))) : AW Γ l mX3_readWords (d + 1) b 43 [vR 4, vR t1, vI x2, vI y3, vI y4, vI y5, vU] [] (stt g) K := by
  refine aw_iload (i := 5) (by decide +kernel) rfl ?_
  refine aw_bipush (n := 8) (by decide +kernel) (by decide +kernel) ?_
  refine ax_icmp_ne (off := 11) (tgt := 58) (x' := wr y5) (y' := 8) (by decide +kernel) (by decide) rfl (by decide +kernel) (fun hc => ?_) (fun hc => ?_)
  · have hF := hF.1 hc
    exact hF
  · have hF := hF.2 hc
    refine aw_iload (i := 4) (by decide +kernel) rfl ?_
    refine aw_iconst (n := 3) (by decide +kernel) ?_
    refine ax_icmp_ne (off := 5) (tgt := 58) (x' := wr y4) (y' := 3) (by decide +kernel) (by decide) rfl (by decide +kernel) (fun hc => ?_) (fun hc => ?_)
    · have hF := hF.1 hc
      exact hF
    · have hF := hF.2 hc
      exact hF
set_option maxHeartbeats 1000000 in
theorem wpX3_readWords_56 {Γ : Cfg} {l : Launch} {d b : Nat} {g : GG} {K : Ou → HP → Prop} {t1 : Int} (ht1 : HI t1) {x2 : Int} {y3 : Int} {y4 : Int} {y5 : Int} (hF : K (.inl (vI 0)) (stt g)) : AW Γ l mX3_readWords (d + 1) b 56 [vR 4, vR t1, vI x2, vI y3, vI y4, vI y5, vU] [] (stt g) K := by
  refine aw_iconst (n := 0) (by decide +kernel) ?_
  exact aw_zret (by decide +kernel) rfl rfl hF
set_option maxHeartbeats 1000000 in
theorem wpX3_readWords_58 {Γ : Cfg} {l : Launch} {d b : Nat} {g : GG} {K : Ou → HP → Prop} {t1 : Int} (ht1 : HI t1) {x2 : Int} {y3 : Int} {y4 : Int} {y5 : Int} (hF : (¬ wr y5 = 8 → (¬ wr y5 = 9 → AW Γ l mX3_readWords (d + 1) b 83 [vR 4, vR t1, vI x2, vI y3, vI y4, vI y5, vU] [vI 0, vI y4] (stt g) K) ∧ (¬ (¬ wr y5 = 9) → AW Γ l mX3_readWords (d + 1) b 83 [vR 4, vR t1, vI x2, vI y3, vI y4, vI y5, vU] [vI (-1), vI y4] (stt g) K)) ∧ (¬ (¬ wr y5 = 8) → AW Γ l mX3_readWords (d + 1) b 83 [vR 4, vR t1, vI x2, vI y3, vI y4, vI y5, vU] [vI 1, vI y4] (stt g) K)) : AW Γ l mX3_readWords (d + 1) b 58 [vR 4, vR t1, vI x2, vI y3, vI y4, vI y5, vU] [] (stt g) K := by
  refine aw_iload (i := 4) (by decide +kernel) rfl ?_
  refine aw_iload (i := 5) (by decide +kernel) rfl ?_
  refine aw_bipush (n := 8) (by decide +kernel) (by decide +kernel) ?_
  refine ax_icmp_ne (off := 7) (tgt := 71) (x' := wr y5) (y' := 8) (by decide +kernel) (by decide) rfl (by decide +kernel) (fun hc => ?_) (fun hc => ?_)
  · have hF := hF.1 hc
    refine aw_iload (i := 5) (by decide +kernel) rfl ?_
    refine aw_bipush (n := 9) (by decide +kernel) (by decide +kernel) ?_
    refine ax_icmp_ne (off := 7) (tgt := 82) (x' := wr y5) (y' := 9) (by decide +kernel) (by decide) rfl (by decide +kernel) (fun hc => ?_) (fun hc => ?_)
    · have hF := hF.1 hc
      refine aw_iconst (n := 0) (by decide +kernel) ?_
      exact hF
    · have hF := hF.2 hc
      refine aw_iconst (n := -1) (by decide +kernel) ?_
      refine aw_goto (off := 4) (tgt := 83) (by decide +kernel) (by decide) ?_
      exact hF
  · have hF := hF.2 hc
    refine aw_iconst (n := 1) (by decide +kernel) ?_
    refine aw_goto (off := 15) (tgt := 83) (by decide +kernel) (by decide) ?_
    exact hF
set_option maxHeartbeats 1000000 in
theorem wpX3_readWords_83 {Γ : Cfg} {l : Launch} {d b : Nat} {g : GG} {K : Ou → HP → Prop} {t1 : Int} (ht1 : HI t1) {x2 : Int} {y3 : Int} {y4 : Int} {y5 : Int} {s0 : Int} {s1 : Int} (hF : Ct Γ l d 0 yX10_step mX10_step [vR 4] (stt g) (bV (fun g1 => (wr y5 = 3 → AW Γ l mX3_readWords (d + 1) b 119 [vR 4, vR t1, vI x2, vI y3, vI (s1 + s0), vI y5, vI 0] [] (stt g1) K) ∧ (¬ (wr y5 = 3) → (wr y5 = 4 → AW Γ l mX3_readWords (d + 1) b 119 [vR 4, vR t1, vI x2, vI y3, vI (s1 + s0), vI y5, vI 0] [] (stt g1) K) ∧ (¬ (wr y5 = 4) → (wr y5 = 6 → AW Γ l mX3_readWords (d + 1) b 119 [vR 4, vR t1, vI x2, vI y3, vI (s1 + s0), vI y5, vI 0] [] (stt g1) K) ∧ (¬ (wr y5 = 6) → (¬ wr y5 = 7 → AW Γ l mX3_readWords (d + 1) b 141 [vR 4, vR t1, vI x2, vI y3, vI (s1 + s0), vI y5, vI 0] [] (stt g1) K) ∧ (¬ (¬ wr y5 = 7) → AW Γ l mX3_readWords (d + 1) b 119 [vR 4, vR t1, vI x2, vI y3, vI (s1 + s0), vI y5, vI 0] [] (stt g1) K))))) K)) : AW Γ l mX3_readWords (d + 1) b 83 [vR 4, vR t1, vI x2, vI y3, vI y4, vI y5, vU] [vI s0, vI s1] (stt g) K := by
  refine aw_iadd (by decide +kernel) ?_
  refine aw_istore (i := 4) (by decide +kernel) (by decide) ?_
  show AW Γ l mX3_readWords (d + 1) b 86 [vR 4, vR t1, vI x2, vI y3, vI (s1 + s0), vI y5, vU] [] (stt g) K
  refine aw_aload_n (k' := 0) (by decide +kernel) rfl ?_
  refine aw_callV (y := yX10_step) (M2 := mX10_step) (as := []) (S := []) (t := 4) (d2 := d) (b2 := 0) (b3 := b) cwX10_step mlX3_29 imX10_step seX10_step (by decide +kernel) rfl (ci := 8) rfl (OB.at (ci := 8) (show shp 4 = (18, 0) by decide +kernel) (by decide)) (Nat.le_refl _) (Nat.le_of_eq (Nat.zero_add _)) rfl rfl (by simp [oneSlot]) (Nat.le_of_ble_eq_true rfl) (Ct.mono hF ?_)
  rintro o h' (⟨g1, rfl, rfl, hG⟩ | ⟨E, g, rfl, rfl, hG⟩)
  · show AW Γ l mX3_readWords (d + 1) b 90 [vR 4, vR t1, vI x2, vI y3, vI (s1 + s0), vI y5, vU] [] (stt g1) K
    refine aw_iconst (n := 0) (by decide +kernel) ?_
    refine aw_istore (i := 6) (by decide +kernel) (by decide) ?_
    show AW Γ l mX3_readWords (d + 1) b 93 [vR 4, vR t1, vI x2, vI y3, vI (s1 + s0), vI y5, vI 0] [] (stt g1) K
    refine aw_iload (i := 5) (by decide +kernel) rfl ?_
    refine aw_iconst (n := 3) (by decide +kernel) ?_
    refine ax_icmp_eq (off := 23) (tgt := 119) (x' := wr y5) (y' := 3) (by decide +kernel) (by decide) rfl (by decide +kernel) (fun hc => ?_) (fun hc => ?_)
    · have hG := hG.1 hc
      exact hG
    · have hG := hG.2 hc
      refine aw_iload (i := 5) (by decide +kernel) rfl ?_
      refine aw_iconst (n := 4) (by decide +kernel) ?_
      refine ax_icmp_eq (off := 17) (tgt := 119) (x' := wr y5) (y' := 4) (by decide +kernel) (by decide) rfl (by decide +kernel) (fun hc => ?_) (fun hc => ?_)
      · have hG := hG.1 hc
        exact hG
      · have hG := hG.2 hc
        refine aw_iload (i := 5) (by decide +kernel) rfl ?_
        refine aw_bipush (n := 6) (by decide +kernel) (by decide +kernel) ?_
        refine ax_icmp_eq (off := 10) (tgt := 119) (x' := wr y5) (y' := 6) (by decide +kernel) (by decide) rfl (by decide +kernel) (fun hc => ?_) (fun hc => ?_)
        · have hG := hG.1 hc
          exact hG
        · have hG := hG.2 hc
          refine aw_iload (i := 5) (by decide +kernel) rfl ?_
          refine aw_bipush (n := 7) (by decide +kernel) (by decide +kernel) ?_
          refine ax_icmp_ne (off := 25) (tgt := 141) (x' := wr y5) (y' := 7) (by decide +kernel) (by decide) rfl (by decide +kernel) (fun hc => ?_) (fun hc => ?_)
          · have hG := hG.1 hc
            exact hG
          · have hG := hG.2 hc
            exact hG
  · exact hG
set_option maxHeartbeats 1000000 in
theorem wpX3_readWords_119 {Γ : Cfg} {l : Launch} {d b : Nat} {g : GG} {K : Ou → HP → Prop} {t1 : Int} (ht1 : HI t1) {x2 : Int} {y3 : Int} {y4 : Int} {y5 : Int} {y6 : Int} (hF : Ct Γ l d 0 yX10_tells mX10_tells [vR 4, vI 0, vI 9] (stt g) (bI (fun v1 g1 => (¬ wr v1 = 0 → Ct Γ l d 0 yX10_step mX10_step [vR 4] (stt g1) (bV (fun g2 => AW Γ l mX3_readWords (d + 1) b 141 [vR 4, vR t1, vI x2, vI y3, vI y4, vI y5, vI (g1 4 6)] [] (stt g2) K) K)) ∧ (¬ (¬ wr v1 = 0) → K (.inl (vI 0)) (stt g1))) K)) : AW Γ l mX3_readWords (d + 1) b 119 [vR 4, vR t1, vI x2, vI y3, vI y4, vI y5, vI y6] [] (stt g) K := by
  refine aw_aload_n (k' := 0) (by decide +kernel) rfl ?_
  refine aw_iconst (n := 0) (by decide +kernel) ?_
  refine aw_bipush (n := 9) (by decide +kernel) (by decide +kernel) ?_
  refine aw_callV (y := yX10_tells) (M2 := mX10_tells) (as := [vI 0, vI 9]) (S := []) (t := 4) (d2 := d) (b2 := 0) (b3 := b) cwX10_tells mlX3_53 imX10_tells seX10_tells (by decide +kernel) rfl (ci := 8) rfl (OB.at (ci := 8) (show shp 4 = (18, 0) by decide +kernel) (by decide)) (Nat.le_refl _) (Nat.le_of_eq (Nat.zero_add _)) rfl rfl (by simp [oneSlot]) (Nat.le_of_ble_eq_true rfl) (Ct.mono hF ?_)
  rintro o h' (⟨v1, g1, rfl, rfl, hG⟩ | ⟨E, g, rfl, rfl, hG⟩)
  · show AW Γ l mX3_readWords (d + 1) b 126 [vR 4, vR t1, vI x2, vI y3, vI y4, vI y5, vI y6] [vI v1] (stt g1) K
    refine ax_if_ne (off := 5) (tgt := 131) (x' := wr v1) (by decide +kernel) (by decide) rfl (fun hc => ?_) (fun hc => ?_)
    · have hG := hG.1 hc
      refine aw_aload_n (k' := 0) (by decide +kernel) rfl ?_
      refine gfX3_57 rfl (by decide +kernel) (OB.at (ci := 8) (show shp 4 = (18, 0) by decide +kernel) (by decide)) ?_
      refine aw_istore (i := 6) (by decide +kernel) (by decide) ?_
      show AW Γ l mX3_readWords (d + 1) b 137 [vR 4, vR t1, vI x2, vI y3, vI y4, vI y5, vI (g1 4 6)] [] (stt g1) K
      refine aw_aload_n (k' := 0) (by decide +kernel) rfl ?_
      refine aw_callV (y := yX10_step) (M2 := mX10_step) (as := []) (S := []) (t := 4) (d2 := d) (b2 := 0) (b3 := b) cwX10_step mlX3_29 imX10_step seX10_step (by decide +kernel) rfl (ci := 8) rfl (OB.at (ci := 8) (show shp 4 = (18, 0) by decide +kernel) (by decide)) (Nat.le_refl _) (Nat.le_of_eq (Nat.zero_add _)) rfl rfl (by simp [oneSlot]) (Nat.le_of_ble_eq_true rfl) (Ct.mono hG ?_)
      rintro o h' (⟨g2, rfl, rfl, hG⟩ | ⟨E, g, rfl, rfl, hG⟩)
      · show AW Γ l mX3_readWords (d + 1) b 141 [vR 4, vR t1, vI x2, vI y3, vI y4, vI y5, vI (g1 4 6)] [] (stt g2) K
        exact hG
      · exact hG
    · have hG := hG.2 hc
      refine aw_iconst (n := 0) (by decide +kernel) ?_
      exact aw_zret (by decide +kernel) rfl rfl hG
  · exact hG
set_option maxHeartbeats 1000000 in
theorem wpX3_readWords_141 {Γ : Cfg} {l : Launch} {d b : Nat} {g : GG} {K : Ou → HP → Prop} {t1 : Int} (ht1 : HI t1) {x2 : Int} {y3 : Int} {y4 : Int} {y5 : Int} {y6 : Int} (hF : (∀ g1 : GG, g1 = puc g (t1 + 1 + 0) ((x2 * 12) + y3) ((y5 * 10) + y6) → AW Γ l mX3_readWords (d + 1) b 5 [vR 4, vR t1, vI x2, vI (y3 + 1), vI y4, vI y5, vI y6] [] (stt g1) K)) : AW Γ l mX3_readWords (d + 1) b 141 [vR 4, vR t1, vI x2, vI y3, vI y4, vI y5, vI y6] [] (stt g) K := by
  refine aw_aload_n (k' := 1) (by decide +kernel) rfl ?_
  refine gfX3_110 rfl (by decide +kernel) (OB.at ht1.ob (by decide)) ?_
  refine AW.topR (ht1.r0) ?_
  refine aw_iload_n (k' := 2) (by decide +kernel) rfl ?_
  refine aw_bipush (n := 12) (by decide +kernel) (by decide +kernel) ?_
  refine aw_imul (by decide +kernel) ?_
  refine aw_iload_n (k' := 3) (by decide +kernel) rfl ?_
  refine aw_iadd (by decide +kernel) ?_
  refine aw_iload (i := 5) (by decide +kernel) rfl ?_
  refine aw_bipush (n := 10) (by decide +kernel) (by decide +kernel) ?_
  refine aw_imul (by decide +kernel) ?_
  refine aw_iload (i := 6) (by decide +kernel) rfl ?_
  refine aw_iadd (by decide +kernel) ?_
  refine aw_callSN (host := "HalfOaths") (y := yX11_put) (M2 := mX11_put) (as := [vR (t1 + 1 + 0), vI ((x2 * 12) + y3), vI ((y5 * 10) + y6)]) (S := []) (d2 := d) (b2 := 0) (b3 := b) cwX11_put mlX3_76 stX11_put (by decide +kernel) rfl (Nat.le_refl _) (Nat.le_of_eq (Nat.zero_add _)) rfl rfl (by simp [oneSlot]) (Nat.le_of_ble_eq_true rfl) (c_put (ht1.a0) ?_)
  show AW Γ l mX3_readWords (d + 1) b 162 [vR 4, vR t1, vI x2, vI y3, vI y4, vI y5, vI y6] [] (stt (puc g (t1 + 1 + 0) ((x2 * 12) + y3) ((y5 * 10) + y6))) K
  show AW Γ l mX3_readWords (d + 1) b 162 [vR 4, vR t1, vI x2, vI y3, vI y4, vI y5, vI y6] [] (stt (puc g (t1 + 1 + 0) ((x2 * 12) + y3) ((y5 * 10) + y6))) K
  generalize eg1 : puc g (t1 + 1 + 0) ((x2 * 12) + y3) ((y5 * 10) + y6) = g1
  replace hF := hF g1 eg1.symm
  refine aw_iinc (i := 3) (n := 1) (by decide +kernel) rfl (by decide) ?_
  show AW Γ l mX3_readWords (d + 1) b 165 [vR 4, vR t1, vI x2, vI (y3 + 1), vI y4, vI y5, vI y6] [] (stt g1) K
  refine aw_goto (off := -160) (tgt := 5) (by decide +kernel) (by decide) ?_
  exact hF

set_option maxHeartbeats 1000000 in
theorem wpX10_scan {Γ : Cfg} {l : Launch} {d b : Nat} {g : GG} {K : Ou → HP → Prop} {r1 : Int} (hr1 : IA r1) {x2 : Int} (hF : AW Γ l mX10_scan (d + 1) b 5 [vR 4, vR r1, vI x2, vI 0, vI 0, vU] [] (stt g) K) : Ct Γ l (d + 1) b yX10_scan mX10_scan [vR 4, vR r1, vI x2] (stt g) K := by
  refine Ct.enter (L := [vR 4, vR r1, vI x2, vU, vU, vU]) rfl rfl rfl (by decide +kernel) (by simp [oneSlot]) (Nat.le_of_ble_eq_true rfl) rfl ?_
  refine aw_iconst (n := 0) (by decide +kernel) ?_
  refine aw_istore_n (k' := 3) (by decide +kernel) (by decide) ?_
  show AW Γ l mX10_scan (d + 1) b 2 [vR 4, vR r1, vI x2, vI 0, vU, vU] [] (stt g) K
  refine aw_iconst (n := 0) (by decide +kernel) ?_
  refine aw_istore (i := 4) (by decide +kernel) (by decide) ?_
  show AW Γ l mX10_scan (d + 1) b 5 [vR 4, vR r1, vI x2, vI 0, vI 0, vU] [] (stt g) K
  exact hF
set_option maxHeartbeats 1000000 in
theorem wpX10_scan_5 {Γ : Cfg} {l : Launch} {d b : Nat} {g : GG} {K : Ou → HP → Prop} {r1 : Int} (hr1 : IA r1) {x2 : Int} {y3 : Int} {y4 : Int} (hF : (wr x2 ≤ wr y4 → Ct Γ l d 0 yX10_addSign mX10_addSign [vR 4, vI y3, vR 1037, vI x2] (stt g) (bV (fun g1 => Ct Γ l d 0 yX10_step mX10_step [vR 4] (stt (upd2 g1 4 3 (-1))) (bV (fun g2 => K (.inl vU) (stt g2)) K)) K)) ∧ (¬ (wr x2 ≤ wr y4) → Ct Γ l d 0 yX10_beginsSign mX10_beginsSign [vR r1, vI y4] (stt g) (bI (fun v1 g3 => (wr v1 = 0 → AW Γ l mX10_scan (d + 1) b 5 [vR 4, vR r1, vI x2, vI y3, vI (y4 + 1), vU] [] (stt g3) K) ∧ (¬ (wr v1 = 0) → Ct Γ l d 0 yX10_endOf mX10_endOf [vR r1, vI y4, vI x2] (stt g3) (bI (fun v2 g4 => Ct Γ l d 0 yX10_signOf mX10_signOf [vR r1, vI y4, vI v2] (stt g4) (bR (fun v3 g5 => Ct Γ l d 0 yX10_addSign mX10_addSign [vR 4, vI y3, vR v3, vI y4] (stt g5) (bV (fun g6 => Ct Γ l d 0 yX10_isDigit mX10_isDigit [vI (cel g6 r1 y4)] (stt g6) (bI (fun v4 g7 => (wr v4 = 0 → AW Γ l mX10_scan (d + 1) b 5 [vR 4, vR r1, vI x2, vI (y3 + 1), vI (y4 + 1), vI v2] [] (stt (puc g7 7 y3 0)) K) ∧ (¬ (wr v4 = 0) → Ct Γ l d 0 yX10_numberOf mX10_numberOf [vR r1, vI y4, vI v2] (stt g7) (bI (fun v5 g8 => AW Γ l mX10_scan (d + 1) b 5 [vR 4, vR r1, vI x2, vI (y3 + 1), vI (y4 + 1), vI v2] [] (stt (puc g8 7 y3 v5)) K) K))) K)) K)) K)) K))) K))) : AW Γ l mX10_scan (d + 1) b 5 [vR 4, vR r1, vI x2, vI y3, vI y4, vU] [] (stt g) K := by
  refine aw_iload (i := 4) (by decide +kernel) rfl ?_
  refine aw_iload_n (k' := 2) (by decide +kernel) rfl ?_
  refine ax_icmp_ge (off := 77) (tgt := 85) (x' := wr y4) (y' := wr x2) (by decide +kernel) (by decide) rfl rfl (fun hc => ?_) (fun hc => ?_)
  · have hF := hF.1 hc
    refine aw_aload_n (k' := 0) (by decide +kernel) rfl ?_
    refine aw_iload_n (k' := 3) (by decide +kernel) rfl ?_
    refine aw_sign' (idx := 28) (i := 37) (r := 1037) (by decide +kernel) (by decide) (by decide) (fun hown hts hnw => Or.inl (hts _ (tm1 62 (by decide +kernel) (by decide +kernel)))) ?_
    refine aw_iload_n (k' := 2) (by decide +kernel) rfl ?_
    refine aw_callV (y := yX10_addSign) (M2 := mX10_addSign) (as := [vI y3, vR 1037, vI x2]) (S := []) (t := 4) (d2 := d) (b2 := 0) (b3 := b) cwX10_addSign mlX10_53 imX10_addSign seX10_addSign (by decide +kernel) rfl (ci := 8) rfl (OB.at (ci := 8) (show shp 4 = (18, 0) by decide +kernel) (by decide)) (Nat.le_refl _) (Nat.le_of_eq (Nat.zero_add _)) rfl rfl (by simp [oneSlot]) (Nat.le_of_ble_eq_true rfl) (Ct.mono hF ?_)
    rintro o h' (⟨g1, rfl, rfl, hG⟩ | ⟨E, g, rfl, rfl, hG⟩)
    · show AW Γ l mX10_scan (d + 1) b 94 [vR 4, vR r1, vI x2, vI y3, vI y4, vU] [] (stt g1) K
      refine aw_aload_n (k' := 0) (by decide +kernel) rfl ?_
      refine aw_iconst (n := -1) (by decide +kernel) ?_
      refine pfX10_24 rfl (by decide +kernel) (OB.at (ci := 8) (show shp 4 = (18, 0) by decide +kernel) (by decide)) ?_
      show AW Γ l mX10_scan (d + 1) b 99 [vR 4, vR r1, vI x2, vI y3, vI y4, vU] [] (stt (upd2 g1 4 3 (-1))) K
      refine aw_aload_n (k' := 0) (by decide +kernel) rfl ?_
      refine aw_callV (y := yX10_step) (M2 := mX10_step) (as := []) (S := []) (t := 4) (d2 := d) (b2 := 0) (b3 := b) cwX10_step mlX10_72 imX10_step seX10_step (by decide +kernel) rfl (ci := 8) rfl (OB.at (ci := 8) (show shp 4 = (18, 0) by decide +kernel) (by decide)) (Nat.le_refl _) (Nat.le_of_eq (Nat.zero_add _)) rfl rfl (by simp [oneSlot]) (Nat.le_of_ble_eq_true rfl) (Ct.mono hG ?_)
      rintro o h' (⟨g2, rfl, rfl, hG⟩ | ⟨E, g, rfl, rfl, hG⟩)
      · show AW Γ l mX10_scan (d + 1) b 103 [vR 4, vR r1, vI x2, vI y3, vI y4, vU] [] (stt g2) K
        exact aw_vret (by decide +kernel) rfl hG
      · exact hG
    · exact hG
  · have hF := hF.2 hc
    refine aw_aload_n (k' := 1) (by decide +kernel) rfl ?_
    refine aw_iload (i := 4) (by decide +kernel) rfl ?_
    refine aw_callS (y := yX10_beginsSign) (M2 := mX10_beginsSign) (as := [vR r1, vI y4]) (S := []) (d2 := d) (b2 := 0) (b3 := b) cwX10_beginsSign mlX10_41 stX10_beginsSign (by decide +kernel) rfl (Nat.le_refl _) (Nat.le_of_eq (Nat.zero_add _)) rfl rfl (by simp [oneSlot]) (Nat.le_of_ble_eq_true rfl) (Ct.mono hF ?_)
    rintro o h' (⟨v1, g3, rfl, rfl, hG⟩ | ⟨E, g, rfl, rfl, hG⟩)
    · show AW Γ l mX10_scan (d + 1) b 17 [vR 4, vR r1, vI x2, vI y3, vI y4, vU] [vI v1] (stt g3) K
      refine ax_if_eq (off := 62) (tgt := 79) (x' := wr v1) (by decide +kernel) (by decide) rfl (fun hc => ?_) (fun hc => ?_)
      · have hG := hG.1 hc
        refine aw_iinc (i := 4) (n := 1) (by decide +kernel) rfl (by decide) ?_
        show AW Γ l mX10_scan (d + 1) b 82 [vR 4, vR r1, vI x2, vI y3, vI (y4 + 1), vU] [] (stt g3) K
        refine aw_goto (off := -77) (tgt := 5) (by decide +kernel) (by decide) ?_
        exact hG
      · have hG := hG.2 hc
        refine aw_aload_n (k' := 1) (by decide +kernel) rfl ?_
        refine aw_iload (i := 4) (by decide +kernel) rfl ?_
        refine aw_iload_n (k' := 2) (by decide +kernel) rfl ?_
        refine aw_callS (y := yX10_endOf) (M2 := mX10_endOf) (as := [vR r1, vI y4, vI x2]) (S := []) (d2 := d) (b2 := 0) (b3 := b) cwX10_endOf mlX10_45 stX10_endOf (by decide +kernel) rfl (Nat.le_refl _) (Nat.le_of_eq (Nat.zero_add _)) rfl rfl (by simp [oneSlot]) (Nat.le_of_ble_eq_true rfl) (Ct.mono hG ?_)
        rintro o h' (⟨v2, g4, rfl, rfl, hG⟩ | ⟨E, g, rfl, rfl, hG⟩)
        · show AW Γ l mX10_scan (d + 1) b 27 [vR 4, vR r1, vI x2, vI y3, vI y4, vU] [vI v2] (stt g4) K
          refine aw_istore (i := 5) (by decide +kernel) (by decide) ?_
          show AW Γ l mX10_scan (d + 1) b 29 [vR 4, vR r1, vI x2, vI y3, vI y4, vI v2] [] (stt g4) K
          refine aw_aload_n (k' := 0) (by decide +kernel) rfl ?_
          refine aw_iload_n (k' := 3) (by decide +kernel) rfl ?_
          refine aw_aload_n (k' := 1) (by decide +kernel) rfl ?_
          refine aw_iload (i := 4) (by decide +kernel) rfl ?_
          refine aw_iload (i := 5) (by decide +kernel) rfl ?_
          refine aw_callS (y := yX10_signOf) (M2 := mX10_signOf) (as := [vR r1, vI y4, vI v2]) (S := [vI y3, vR 4]) (d2 := d) (b2 := 0) (b3 := b) cwX10_signOf mlX10_49 stX10_signOf (by decide +kernel) rfl (Nat.le_refl _) (Nat.le_of_eq (Nat.zero_add _)) rfl rfl (by simp [oneSlot]) (Nat.le_of_ble_eq_true rfl) (Ct.mono hG ?_)
          rintro o h' (⟨v3, g5, rfl, rfl, hG⟩ | ⟨E, g, rfl, rfl, hG⟩)
          · show AW Γ l mX10_scan (d + 1) b 39 [vR 4, vR r1, vI x2, vI y3, vI y4, vI v2] [vR v3, vI y3, vR 4] (stt g5) K
            refine aw_iload (i := 4) (by decide +kernel) rfl ?_
            refine aw_callV (y := yX10_addSign) (M2 := mX10_addSign) (as := [vI y3, vR v3, vI y4]) (S := []) (t := 4) (d2 := d) (b2 := 0) (b3 := b) cwX10_addSign mlX10_53 imX10_addSign seX10_addSign (by decide +kernel) rfl (ci := 8) rfl (OB.at (ci := 8) (show shp 4 = (18, 0) by decide +kernel) (by decide)) (Nat.le_refl _) (Nat.le_of_eq (Nat.zero_add _)) rfl rfl (by simp [oneSlot]) (Nat.le_of_ble_eq_true rfl) (Ct.mono hG ?_)
            rintro o h' (⟨g6, rfl, rfl, hG⟩ | ⟨E, g, rfl, rfl, hG⟩)
            · show AW Γ l mX10_scan (d + 1) b 44 [vR 4, vR r1, vI x2, vI y3, vI y4, vI v2] [] (stt g6) K
              refine aw_aload_n (k' := 0) (by decide +kernel) rfl ?_
              refine gfX10_21 rfl (by decide +kernel) (OB.at (ci := 8) (show shp 4 = (18, 0) by decide +kernel) (by decide)) ?_
              refine AW.topR (show RC 4 2 = 7 by decide +kernel) ?_
              refine aw_iload_n (k' := 3) (by decide +kernel) rfl ?_
              refine aw_aload_n (k' := 1) (by decide +kernel) rfl ?_
              refine aw_iload (i := 4) (by decide +kernel) rfl ?_
              refine aw_callSN (host := "HalfOaths") (y := yX11_cell) (M2 := mX11_cell) (as := [vR r1, vI y4]) (S := [vI y3, vR 7]) (d2 := d) (b2 := 0) (b3 := b) cwX11_cell mlX10_57 stX11_cell (by decide +kernel) rfl (Nat.le_refl _) (Nat.le_of_eq (Nat.zero_add _)) rfl rfl (by simp [oneSlot]) (Nat.le_of_ble_eq_true rfl) (c_cell hr1 ?_)
              show AW Γ l mX10_scan (d + 1) b 55 [vR 4, vR r1, vI x2, vI y3, vI y4, vI v2] [vI (cel g6 r1 y4), vI y3, vR 7] (stt g6) K
              refine aw_callS (y := yX10_isDigit) (M2 := mX10_isDigit) (as := [vI (cel g6 r1 y4)]) (S := [vI y3, vR 7]) (d2 := d) (b2 := 0) (b3 := b) cwX10_isDigit mlX10_61 stX10_isDigit (by decide +kernel) rfl (Nat.le_refl _) (Nat.le_of_eq (Nat.zero_add _)) rfl rfl (by simp [oneSlot]) (Nat.le_of_ble_eq_true rfl) (Ct.mono hG ?_)
              rintro o h' (⟨v4, g7, rfl, rfl, hG⟩ | ⟨E, g, rfl, rfl, hG⟩)
              · show AW Γ l mX10_scan (d + 1) b 58 [vR 4, vR r1, vI x2, vI y3, vI y4, vI v2] [vI v4, vI y3, vR 7] (stt g7) K
                refine ax_if_eq (off := 14) (tgt := 72) (x' := wr v4) (by decide +kernel) (by decide) rfl (fun hc => ?_) (fun hc => ?_)
                · have hG := hG.1 hc
                  refine aw_iconst (n := 0) (by decide +kernel) ?_
                  refine aw_callSN (host := "HalfOaths") (y := yX11_put) (M2 := mX11_put) (as := [vR 7, vI y3, vI 0]) (S := []) (d2 := d) (b2 := 0) (b3 := b) cwX11_put mlX10_68 stX11_put (by decide +kernel) rfl (Nat.le_refl _) (Nat.le_of_eq (Nat.zero_add _)) rfl rfl (by simp [oneSlot]) (Nat.le_of_ble_eq_true rfl) (c_put (show (shp 7).1 = 0 by decide +kernel) ?_)
                  show AW Γ l mX10_scan (d + 1) b 76 [vR 4, vR r1, vI x2, vI y3, vI y4, vI v2] [] (stt (puc g7 7 y3 0)) K
                  refine aw_iinc (i := 3) (n := 1) (by decide +kernel) rfl (by decide) ?_
                  show AW Γ l mX10_scan (d + 1) b 79 [vR 4, vR r1, vI x2, vI (y3 + 1), vI y4, vI v2] [] (stt (puc g7 7 y3 0)) K
                  refine aw_iinc (i := 4) (n := 1) (by decide +kernel) rfl (by decide) ?_
                  show AW Γ l mX10_scan (d + 1) b 82 [vR 4, vR r1, vI x2, vI (y3 + 1), vI (y4 + 1), vI v2] [] (stt (puc g7 7 y3 0)) K
                  refine aw_goto (off := -77) (tgt := 5) (by decide +kernel) (by decide) ?_
                  exact hG
                · have hG := hG.2 hc
                  refine aw_aload_n (k' := 1) (by decide +kernel) rfl ?_
                  refine aw_iload (i := 4) (by decide +kernel) rfl ?_
                  refine aw_iload (i := 5) (by decide +kernel) rfl ?_
                  refine aw_callS (y := yX10_numberOf) (M2 := mX10_numberOf) (as := [vR r1, vI y4, vI v2]) (S := [vI y3, vR 7]) (d2 := d) (b2 := 0) (b3 := b) cwX10_numberOf mlX10_65 stX10_numberOf (by decide +kernel) rfl (Nat.le_refl _) (Nat.le_of_eq (Nat.zero_add _)) rfl rfl (by simp [oneSlot]) (Nat.le_of_ble_eq_true rfl) (Ct.mono hG ?_)
                  rintro o h' (⟨v5, g8, rfl, rfl, hG⟩ | ⟨E, g, rfl, rfl, hG⟩)
                  · show AW Γ l mX10_scan (d + 1) b 69 [vR 4, vR r1, vI x2, vI y3, vI y4, vI v2] [vI v5, vI y3, vR 7] (stt g8) K
                    refine aw_goto (off := 4) (tgt := 73) (by decide +kernel) (by decide) ?_
                    refine aw_callSN (host := "HalfOaths") (y := yX11_put) (M2 := mX11_put) (as := [vR 7, vI y3, vI v5]) (S := []) (d2 := d) (b2 := 0) (b3 := b) cwX11_put mlX10_68 stX11_put (by decide +kernel) rfl (Nat.le_refl _) (Nat.le_of_eq (Nat.zero_add _)) rfl rfl (by simp [oneSlot]) (Nat.le_of_ble_eq_true rfl) (c_put (show (shp 7).1 = 0 by decide +kernel) ?_)
                    show AW Γ l mX10_scan (d + 1) b 76 [vR 4, vR r1, vI x2, vI y3, vI y4, vI v2] [] (stt (puc g8 7 y3 v5)) K
                    refine aw_iinc (i := 3) (n := 1) (by decide +kernel) rfl (by decide) ?_
                    show AW Γ l mX10_scan (d + 1) b 79 [vR 4, vR r1, vI x2, vI (y3 + 1), vI y4, vI v2] [] (stt (puc g8 7 y3 v5)) K
                    refine aw_iinc (i := 4) (n := 1) (by decide +kernel) rfl (by decide) ?_
                    show AW Γ l mX10_scan (d + 1) b 82 [vR 4, vR r1, vI x2, vI (y3 + 1), vI (y4 + 1), vI v2] [] (stt (puc g8 7 y3 v5)) K
                    refine aw_goto (off := -77) (tgt := 5) (by decide +kernel) (by decide) ?_
                    exact hG
                  · exact hG
              · exact hG
            · exact hG
          · exact hG
        · exact hG
    · exact hG

set_option maxHeartbeats 1000000 in
theorem wpX10_step {Γ : Cfg} {l : Launch} {d b : Nat} {g : GG} {K : Ou → HP → Prop}  (hF : (wr ((upd2 g 4 3 ((g 4 3) + 1)) 4 3) < 0 → K (.inl vU) (stt (upd2 g 4 3 ((g 4 3) + 1)))) ∧ (¬ (wr ((upd2 g 4 3 ((g 4 3) + 1)) 4 3) < 0) → (401 ≤ wr ((upd2 g 4 3 ((g 4 3) + 1)) 4 3) → K (.inl vU) (stt (upd2 g 4 3 ((g 4 3) + 1)))) ∧ (¬ (401 ≤ wr ((upd2 g 4 3 ((g 4 3) + 1)) 4 3)) → (0 ≤ wr ((upd2 g 4 3 ((g 4 3) + 1)) 4 3) ∧ wr ((upd2 g 4 3 ((g 4 3) + 1)) 4 3) < 401) ∧ (((upd2 g 4 3 ((g 4 3) + 1)) 5 (wr ((upd2 g 4 3 ((g 4 3) + 1)) 4 3)) = 0 → K (.inl vU) (stt (upd2 g 4 3 ((g 4 3) + 1)))) ∧ (¬ ((upd2 g 4 3 ((g 4 3) + 1)) 5 (wr ((upd2 g 4 3 ((g 4 3) + 1)) 4 3)) = 0) → (∀ g1 : GG, g1 = upd2 (upd2 (upd2 g 4 3 ((g 4 3) + 1)) 4 4 ((upd2 g 4 3 ((g 4 3) + 1)) 5 (wr ((upd2 g 4 3 ((g 4 3) + 1)) 4 3)))) 4 5 (cel (upd2 (upd2 g 4 3 ((g 4 3) + 1)) 4 4 ((upd2 g 4 3 ((g 4 3) + 1)) 5 (wr ((upd2 g 4 3 ((g 4 3) + 1)) 4 3)))) 6 ((upd2 (upd2 g 4 3 ((g 4 3) + 1)) 4 4 ((upd2 g 4 3 ((g 4 3) + 1)) 5 (wr ((upd2 g 4 3 ((g 4 3) + 1)) 4 3)))) 4 3)) → K (.inl vU) (stt (upd2 g1 4 6 (cel g1 7 (g1 4 3)))))))))) : Ct Γ l (d + 1) b yX10_step mX10_step [vR 4] (stt g) K := by
  refine Ct.enter (L := [vR 4, vU]) rfl rfl rfl (by decide +kernel) (by simp [oneSlot]) (Nat.le_of_ble_eq_true rfl) rfl ?_
  refine aw_aload_n (k' := 0) (by decide +kernel) rfl ?_
  refine aw_dup (by decide +kernel) trivial ?_
  refine gfX10_24 rfl (by decide +kernel) (OB.at (ci := 8) (show shp 4 = (18, 0) by decide +kernel) (by decide)) ?_
  refine aw_iconst (n := 1) (by decide +kernel) ?_
  refine aw_iadd (by decide +kernel) ?_
  refine pfX10_24 rfl (by decide +kernel) (OB.at (ci := 8) (show shp 4 = (18, 0) by decide +kernel) (by decide)) ?_
  show AW Γ l mX10_step (d + 1) b 10 [vR 4, vU] [] (stt (upd2 g 4 3 ((g 4 3) + 1))) K
  refine aw_aload_n (k' := 0) (by decide +kernel) rfl ?_
  refine gfX10_24 rfl (by decide +kernel) (OB.at (ci := 8) (show shp 4 = (18, 0) by decide +kernel) (by decide)) ?_
  refine ax_if_lt (off := 27) (tgt := 41) (x' := wr ((upd2 g 4 3 ((g 4 3) + 1)) 4 3)) (by decide +kernel) (by decide) rfl (fun hc => ?_) (fun hc => ?_)
  · have hF := hF.1 hc
    refine aw_null (by decide +kernel) ?_
    refine aw_astore_n (k' := 1) (by decide +kernel) (by decide) ?_
    show AW Γ l mX10_step (d + 1) b 43 [vR 4, vR 0] [] (stt (upd2 g 4 3 ((g 4 3) + 1))) K
    refine aw_aload_n (k' := 1) (by decide +kernel) rfl ?_
    refine aw_ifnull (off := 38) (tgt := 82) (by decide +kernel) (by decide) (fun hc => ?_) (fun hc => ?_)
    rotate_left
    · exact absurd (by decide) hc
    exact aw_vret (by decide +kernel) rfl hF
  · have hF := hF.2 hc
    refine aw_aload_n (k' := 0) (by decide +kernel) rfl ?_
    refine gfX10_24 rfl (by decide +kernel) (OB.at (ci := 8) (show shp 4 = (18, 0) by decide +kernel) (by decide)) ?_
    refine aw_aload_n (k' := 0) (by decide +kernel) rfl ?_
    refine gfX10_11 rfl (by decide +kernel) (OB.at (ci := 8) (show shp 4 = (18, 0) by decide +kernel) (by decide)) ?_
    refine AW.topR (show RC 4 0 = 5 by decide +kernel) ?_
    refine aw_alen (k := 5) (n := 401) (by decide +kernel) (by decide) (isA_lit (show shp 5 = (5, 401) by decide +kernel) (by decide)) ?_
    show AW Γ l mX10_step (d + 1) b 26 [vR 4, vU] [vI 401, vI ((upd2 g 4 3 ((g 4 3) + 1)) 4 3)] (stt (upd2 g 4 3 ((g 4 3) + 1))) K
    refine ax_icmp_ge (off := 15) (tgt := 41) (x' := wr ((upd2 g 4 3 ((g 4 3) + 1)) 4 3)) (y' := 401) (by decide +kernel) (by decide) rfl (by decide +kernel) (fun hc => ?_) (fun hc => ?_)
    · have hF := hF.1 hc
      refine aw_null (by decide +kernel) ?_
      refine aw_astore_n (k' := 1) (by decide +kernel) (by decide) ?_
      show AW Γ l mX10_step (d + 1) b 43 [vR 4, vR 0] [] (stt (upd2 g 4 3 ((g 4 3) + 1))) K
      refine aw_aload_n (k' := 1) (by decide +kernel) rfl ?_
      refine aw_ifnull (off := 38) (tgt := 82) (by decide +kernel) (by decide) (fun hc => ?_) (fun hc => ?_)
      rotate_left
      · exact absurd (by decide) hc
      exact aw_vret (by decide +kernel) rfl hF
    · have hF := hF.2 hc
      refine aw_aload_n (k' := 0) (by decide +kernel) rfl ?_
      refine gfX10_11 rfl (by decide +kernel) (OB.at (ci := 8) (show shp 4 = (18, 0) by decide +kernel) (by decide)) ?_
      refine AW.topR (show RC 4 0 = 5 by decide +kernel) ?_
      refine aw_aload_n (k' := 0) (by decide +kernel) rfl ?_
      refine gfX10_24 rfl (by decide +kernel) (OB.at (ci := 8) (show shp 4 = (18, 0) by decide +kernel) (by decide)) ?_
      refine ax_aald5 (i := wr ((upd2 g 4 3 ((g 4 3) + 1)) 4 3)) (n := 401) (by decide +kernel) (isA_lit (show shp 5 = (5, 401) by decide +kernel) (by decide)) rfl hF.1 ?_
      replace hF := hF.2
      refine aw_goto (off := 4) (tgt := 42) (by decide +kernel) (by decide) ?_
      refine aw_astore_n (k' := 1) (by decide +kernel) (by decide) ?_
      show AW Γ l mX10_step (d + 1) b 43 [vR 4, vR ((upd2 g 4 3 ((g 4 3) + 1)) 5 (wr ((upd2 g 4 3 ((g 4 3) + 1)) 4 3)))] [] (stt (upd2 g 4 3 ((g 4 3) + 1))) K
      refine aw_aload_n (k' := 1) (by decide +kernel) rfl ?_
      refine aw_ifnull (off := 38) (tgt := 82) (by decide +kernel) (by decide) (fun hc => ?_) (fun hc => ?_)
      · have hF := hF.1 hc
        exact aw_vret (by decide +kernel) rfl hF
      · have hF := hF.2 hc
        refine aw_aload_n (k' := 0) (by decide +kernel) rfl ?_
        refine aw_aload_n (k' := 1) (by decide +kernel) rfl ?_
        refine pfX10_32 rfl (by decide +kernel) (OB.at (ci := 8) (show shp 4 = (18, 0) by decide +kernel) (by decide)) ?_
        show AW Γ l mX10_step (d + 1) b 52 [vR 4, vR ((upd2 g 4 3 ((g 4 3) + 1)) 5 (wr ((upd2 g 4 3 ((g 4 3) + 1)) 4 3)))] [] (stt (upd2 (upd2 g 4 3 ((g 4 3) + 1)) 4 4 ((upd2 g 4 3 ((g 4 3) + 1)) 5 (wr ((upd2 g 4 3 ((g 4 3) + 1)) 4 3))))) K
        refine aw_aload_n (k' := 0) (by decide +kernel) rfl ?_
        refine aw_aload_n (k' := 0) (by decide +kernel) rfl ?_
        refine gfX10_17 rfl (by decide +kernel) (OB.at (ci := 8) (show shp 4 = (18, 0) by decide +kernel) (by decide)) ?_
        refine AW.topR (show RC 4 1 = 6 by decide +kernel) ?_
        refine aw_aload_n (k' := 0) (by decide +kernel) rfl ?_
        refine gfX10_24 rfl (by decide +kernel) (OB.at (ci := 8) (show shp 4 = (18, 0) by decide +kernel) (by decide)) ?_
        refine aw_callSN (host := "HalfOaths") (y := yX11_cell) (M2 := mX11_cell) (as := [vR 6, vI ((upd2 (upd2 g 4 3 ((g 4 3) + 1)) 4 4 ((upd2 g 4 3 ((g 4 3) + 1)) 5 (wr ((upd2 g 4 3 ((g 4 3) + 1)) 4 3)))) 4 3)]) (S := [vR 4]) (d2 := d) (b2 := 0) (b3 := b) cwX11_cell mlX10_57 stX11_cell (by decide +kernel) rfl (Nat.le_refl _) (Nat.le_of_eq (Nat.zero_add _)) rfl rfl (by simp [oneSlot]) (Nat.le_of_ble_eq_true rfl) (c_cell (show (shp 6).1 = 0 by decide +kernel) ?_)
        show AW Γ l mX10_step (d + 1) b 64 [vR 4, vR ((upd2 g 4 3 ((g 4 3) + 1)) 5 (wr ((upd2 g 4 3 ((g 4 3) + 1)) 4 3)))] [vI (cel (upd2 (upd2 g 4 3 ((g 4 3) + 1)) 4 4 ((upd2 g 4 3 ((g 4 3) + 1)) 5 (wr ((upd2 g 4 3 ((g 4 3) + 1)) 4 3)))) 6 ((upd2 (upd2 g 4 3 ((g 4 3) + 1)) 4 4 ((upd2 g 4 3 ((g 4 3) + 1)) 5 (wr ((upd2 g 4 3 ((g 4 3) + 1)) 4 3)))) 4 3)), vR 4] (stt (upd2 (upd2 g 4 3 ((g 4 3) + 1)) 4 4 ((upd2 g 4 3 ((g 4 3) + 1)) 5 (wr ((upd2 g 4 3 ((g 4 3) + 1)) 4 3))))) K
        refine pfX10_35 rfl (by decide +kernel) (OB.at (ci := 8) (show shp 4 = (18, 0) by decide +kernel) (by decide)) ?_
        show AW Γ l mX10_step (d + 1) b 67 [vR 4, vR ((upd2 g 4 3 ((g 4 3) + 1)) 5 (wr ((upd2 g 4 3 ((g 4 3) + 1)) 4 3)))] [] (stt (upd2 (upd2 (upd2 g 4 3 ((g 4 3) + 1)) 4 4 ((upd2 g 4 3 ((g 4 3) + 1)) 5 (wr ((upd2 g 4 3 ((g 4 3) + 1)) 4 3)))) 4 5 (cel (upd2 (upd2 g 4 3 ((g 4 3) + 1)) 4 4 ((upd2 g 4 3 ((g 4 3) + 1)) 5 (wr ((upd2 g 4 3 ((g 4 3) + 1)) 4 3)))) 6 ((upd2 (upd2 g 4 3 ((g 4 3) + 1)) 4 4 ((upd2 g 4 3 ((g 4 3) + 1)) 5 (wr ((upd2 g 4 3 ((g 4 3) + 1)) 4 3)))) 4 3)))) K
        generalize eg1 : upd2 (upd2 (upd2 g 4 3 ((g 4 3) + 1)) 4 4 ((upd2 g 4 3 ((g 4 3) + 1)) 5 (wr ((upd2 g 4 3 ((g 4 3) + 1)) 4 3)))) 4 5 (cel (upd2 (upd2 g 4 3 ((g 4 3) + 1)) 4 4 ((upd2 g 4 3 ((g 4 3) + 1)) 5 (wr ((upd2 g 4 3 ((g 4 3) + 1)) 4 3)))) 6 ((upd2 (upd2 g 4 3 ((g 4 3) + 1)) 4 4 ((upd2 g 4 3 ((g 4 3) + 1)) 5 (wr ((upd2 g 4 3 ((g 4 3) + 1)) 4 3)))) 4 3)) = g1
        replace hF := hF g1 eg1.symm
        refine aw_aload_n (k' := 0) (by decide +kernel) rfl ?_
        refine aw_aload_n (k' := 0) (by decide +kernel) rfl ?_
        refine gfX10_21 rfl (by decide +kernel) (OB.at (ci := 8) (show shp 4 = (18, 0) by decide +kernel) (by decide)) ?_
        refine AW.topR (show RC 4 2 = 7 by decide +kernel) ?_
        refine aw_aload_n (k' := 0) (by decide +kernel) rfl ?_
        refine gfX10_24 rfl (by decide +kernel) (OB.at (ci := 8) (show shp 4 = (18, 0) by decide +kernel) (by decide)) ?_
        refine aw_callSN (host := "HalfOaths") (y := yX11_cell) (M2 := mX11_cell) (as := [vR 7, vI (g1 4 3)]) (S := [vR 4]) (d2 := d) (b2 := 0) (b3 := b) cwX11_cell mlX10_57 stX11_cell (by decide +kernel) rfl (Nat.le_refl _) (Nat.le_of_eq (Nat.zero_add _)) rfl rfl (by simp [oneSlot]) (Nat.le_of_ble_eq_true rfl) (c_cell (show (shp 7).1 = 0 by decide +kernel) ?_)
        show AW Γ l mX10_step (d + 1) b 79 [vR 4, vR ((upd2 g 4 3 ((g 4 3) + 1)) 5 (wr ((upd2 g 4 3 ((g 4 3) + 1)) 4 3)))] [vI (cel g1 7 (g1 4 3)), vR 4] (stt g1) K
        refine pfX10_38 rfl (by decide +kernel) (OB.at (ci := 8) (show shp 4 = (18, 0) by decide +kernel) (by decide)) ?_
        show AW Γ l mX10_step (d + 1) b 82 [vR 4, vR ((upd2 g 4 3 ((g 4 3) + 1)) 5 (wr ((upd2 g 4 3 ((g 4 3) + 1)) 4 3)))] [] (stt (upd2 g1 4 6 (cel g1 7 (g1 4 3)))) K
        exact aw_vret (by decide +kernel) rfl hF

set_option maxHeartbeats 1000000 in
theorem wpX10_tells {Γ : Cfg} {l : Launch} {d b : Nat} {g : GG} {K : Ou → HP → Prop} {x1 : Int} {x2 : Int} (hF : (SG (g 4 4)) ∧ ((¬ g 4 4 = 1036 → K (.inl (vI 0)) (stt g)) ∧ (g 4 4 = 1036 → (wr (g 4 6) < wr x1 → K (.inl (vI 0)) (stt g)) ∧ (¬ (wr (g 4 6) < wr x1) → (wr x2 < wr (g 4 6) → K (.inl (vI 0)) (stt g)) ∧ (¬ (wr x2 < wr (g 4 6)) → K (.inl (vI 1)) (stt g)))))) : Ct Γ l d b yX10_tells mX10_tells [vR 4, vI x1, vI x2] (stt g) K := by
  refine Ct.enter (L := [vR 4, vI x1, vI x2]) rfl rfl rfl (by decide +kernel) (by simp [oneSlot]) (Nat.le_of_ble_eq_true rfl) rfl ?_
  refine aw_aload_n (k' := 0) (by decide +kernel) rfl ?_
  refine gfX10_32 rfl (by decide +kernel) (OB.at (ci := 8) (show shp 4 = (18, 0) by decide +kernel) (by decide)) ?_
  refine aw_sign' (idx := 75) (i := 36) (r := 1036) (by decide +kernel) (by decide) (by decide) (fun hown hts hnw => Or.inl (hts _ (tm3 123 (by decide +kernel) (by decide +kernel)))) ?_
  refine aw_sacmp_ne (off := 23) (tgt := 30) (by decide +kernel) (by decide) hF.1 (show SG 1036 from ⟨by decide, by decide⟩) (fun hc => ?_) (fun hc => ?_)
  all_goals replace hF := hF.2
  · have hF := hF.1 hc
    refine aw_iconst (n := 0) (by decide +kernel) ?_
    exact aw_zret (by decide +kernel) rfl rfl hF
  · have hF := hF.2 hc
    refine aw_aload_n (k' := 0) (by decide +kernel) rfl ?_
    refine gfX10_38 rfl (by decide +kernel) (OB.at (ci := 8) (show shp 4 = (18, 0) by decide +kernel) (by decide)) ?_
    refine aw_iload_n (k' := 1) (by decide +kernel) rfl ?_
    refine ax_icmp_lt (off := 15) (tgt := 30) (x' := wr (g 4 6)) (y' := wr x1) (by decide +kernel) (by decide) rfl rfl (fun hc => ?_) (fun hc => ?_)
    · have hF := hF.1 hc
      refine aw_iconst (n := 0) (by decide +kernel) ?_
      exact aw_zret (by decide +kernel) rfl rfl hF
    · have hF := hF.2 hc
      refine aw_aload_n (k' := 0) (by decide +kernel) rfl ?_
      refine gfX10_38 rfl (by decide +kernel) (OB.at (ci := 8) (show shp 4 = (18, 0) by decide +kernel) (by decide)) ?_
      refine aw_iload_n (k' := 2) (by decide +kernel) rfl ?_
      refine ax_icmp_gt (off := 7) (tgt := 30) (x' := wr (g 4 6)) (y' := wr x2) (by decide +kernel) (by decide) rfl rfl (fun hc => ?_) (fun hc => ?_)
      · have hF := hF.1 hc
        refine aw_iconst (n := 0) (by decide +kernel) ?_
        exact aw_zret (by decide +kernel) rfl rfl hF
      · have hF := hF.2 hc
        refine aw_iconst (n := 1) (by decide +kernel) ?_
        refine aw_goto (off := 4) (tgt := 31) (by decide +kernel) (by decide) ?_
        exact aw_zret (by decide +kernel) rfl rfl hF

set_option maxHeartbeats 1000000 in
theorem wpX10_addSign {Γ : Cfg} {l : Launch} {d b : Nat} {g : GG} {K : Ou → HP → Prop} {x1 : Int} {t2 : Int} (ht2 : SG t2) {x3 : Int} (hF : (wr x1 < 0 → K (.inl vU) (stt (puc g 6 x1 x3))) ∧ (¬ (wr x1 < 0) → (401 ≤ wr x1 → K (.inl vU) (stt (puc g 6 x1 x3))) ∧ (¬ (401 ≤ wr x1) → (0 ≤ wr x1 ∧ wr x1 < 401) ∧ (K (.inl vU) (stt (puc (upd2 g 5 (wr x1) t2) 6 x1 x3)))))) : Ct Γ l (d + 1) b yX10_addSign mX10_addSign [vR 4, vI x1, vR t2, vI x3] (stt g) K := by
  refine Ct.enter (L := [vR 4, vI x1, vR t2, vI x3]) rfl rfl rfl (by decide +kernel) (by simp [oneSlot]) (Nat.le_of_ble_eq_true rfl) rfl ?_
  refine aw_iload_n (k' := 1) (by decide +kernel) rfl ?_
  refine ax_if_lt (off := 19) (tgt := 20) (x' := wr x1) (by decide +kernel) (by decide) rfl (fun hc => ?_) (fun hc => ?_)
  · have hF := hF.1 hc
    refine aw_aload_n (k' := 0) (by decide +kernel) rfl ?_
    refine gfX10_17 rfl (by decide +kernel) (OB.at (ci := 8) (show shp 4 = (18, 0) by decide +kernel) (by decide)) ?_
    refine AW.topR (show RC 4 1 = 6 by decide +kernel) ?_
    refine aw_iload_n (k' := 1) (by decide +kernel) rfl ?_
    refine aw_iload_n (k' := 3) (by decide +kernel) rfl ?_
    refine aw_callSN (host := "HalfOaths") (y := yX11_put) (M2 := mX11_put) (as := [vR 6, vI x1, vI x3]) (S := []) (d2 := d) (b2 := 0) (b3 := b) cwX11_put mlX10_68 stX11_put (by decide +kernel) rfl (Nat.le_refl _) (Nat.le_of_eq (Nat.zero_add _)) rfl rfl (by simp [oneSlot]) (Nat.le_of_ble_eq_true rfl) (c_put (show (shp 6).1 = 0 by decide +kernel) ?_)
    show AW Γ l mX10_addSign (d + 1) b 29 [vR 4, vI x1, vR t2, vI x3] [] (stt (puc g 6 x1 x3)) K
    exact aw_vret (by decide +kernel) rfl hF
  · have hF := hF.2 hc
    refine aw_iload_n (k' := 1) (by decide +kernel) rfl ?_
    refine aw_aload_n (k' := 0) (by decide +kernel) rfl ?_
    refine gfX10_11 rfl (by decide +kernel) (OB.at (ci := 8) (show shp 4 = (18, 0) by decide +kernel) (by decide)) ?_
    refine AW.topR (show RC 4 0 = 5 by decide +kernel) ?_
    refine aw_alen (k := 5) (n := 401) (by decide +kernel) (by decide) (isA_lit (show shp 5 = (5, 401) by decide +kernel) (by decide)) ?_
    show AW Γ l mX10_addSign (d + 1) b 10 [vR 4, vI x1, vR t2, vI x3] [vI 401, vI x1] (stt g) K
    refine ax_icmp_ge (off := 10) (tgt := 20) (x' := wr x1) (y' := 401) (by decide +kernel) (by decide) rfl (by decide +kernel) (fun hc => ?_) (fun hc => ?_)
    · have hF := hF.1 hc
      refine aw_aload_n (k' := 0) (by decide +kernel) rfl ?_
      refine gfX10_17 rfl (by decide +kernel) (OB.at (ci := 8) (show shp 4 = (18, 0) by decide +kernel) (by decide)) ?_
      refine AW.topR (show RC 4 1 = 6 by decide +kernel) ?_
      refine aw_iload_n (k' := 1) (by decide +kernel) rfl ?_
      refine aw_iload_n (k' := 3) (by decide +kernel) rfl ?_
      refine aw_callSN (host := "HalfOaths") (y := yX11_put) (M2 := mX11_put) (as := [vR 6, vI x1, vI x3]) (S := []) (d2 := d) (b2 := 0) (b3 := b) cwX11_put mlX10_68 stX11_put (by decide +kernel) rfl (Nat.le_refl _) (Nat.le_of_eq (Nat.zero_add _)) rfl rfl (by simp [oneSlot]) (Nat.le_of_ble_eq_true rfl) (c_put (show (shp 6).1 = 0 by decide +kernel) ?_)
      show AW Γ l mX10_addSign (d + 1) b 29 [vR 4, vI x1, vR t2, vI x3] [] (stt (puc g 6 x1 x3)) K
      exact aw_vret (by decide +kernel) rfl hF
    · have hF := hF.2 hc
      refine aw_aload_n (k' := 0) (by decide +kernel) rfl ?_
      refine gfX10_11 rfl (by decide +kernel) (OB.at (ci := 8) (show shp 4 = (18, 0) by decide +kernel) (by decide)) ?_
      refine AW.topR (show RC 4 0 = 5 by decide +kernel) ?_
      refine aw_iload_n (k' := 1) (by decide +kernel) rfl ?_
      refine aw_aload_n (k' := 2) (by decide +kernel) rfl ?_
      refine ax_aast5 (i := wr x1) (n := 401) (by decide +kernel) (isA_lit (show shp 5 = (5, 401) by decide +kernel) (by decide)) rfl hF.1 ht2 ?_
      show AW Γ l mX10_addSign (d + 1) b 20 [vR 4, vI x1, vR t2, vI x3] [] (stt (upd2 g 5 (wr x1) t2)) K
      replace hF := hF.2
      refine aw_aload_n (k' := 0) (by decide +kernel) rfl ?_
      refine gfX10_17 rfl (by decide +kernel) (OB.at (ci := 8) (show shp 4 = (18, 0) by decide +kernel) (by decide)) ?_
      refine AW.topR (show RC 4 1 = 6 by decide +kernel) ?_
      refine aw_iload_n (k' := 1) (by decide +kernel) rfl ?_
      refine aw_iload_n (k' := 3) (by decide +kernel) rfl ?_
      refine aw_callSN (host := "HalfOaths") (y := yX11_put) (M2 := mX11_put) (as := [vR 6, vI x1, vI x3]) (S := []) (d2 := d) (b2 := 0) (b3 := b) cwX11_put mlX10_68 stX11_put (by decide +kernel) rfl (Nat.le_refl _) (Nat.le_of_eq (Nat.zero_add _)) rfl rfl (by simp [oneSlot]) (Nat.le_of_ble_eq_true rfl) (c_put (show (shp 6).1 = 0 by decide +kernel) ?_)
      show AW Γ l mX10_addSign (d + 1) b 29 [vR 4, vI x1, vR t2, vI x3] [] (stt (puc (upd2 g 5 (wr x1) t2) 6 x1 x3)) K
      exact aw_vret (by decide +kernel) rfl hF

set_option maxHeartbeats 1000000 in
theorem wpX10_isLetter {Γ : Cfg} {l : Launch} {d b : Nat} {g : GG} {K : Ou → HP → Prop} {x0 : Int} (hF : (wr x0 < 97 → K (.inl (vI 0)) (stt g)) ∧ (¬ (wr x0 < 97) → (122 < wr x0 → K (.inl (vI 0)) (stt g)) ∧ (¬ (122 < wr x0) → K (.inl (vI 1)) (stt g)))) : Ct Γ l d b yX10_isLetter mX10_isLetter [vI x0] (stt g) K := by
  refine Ct.enter (L := [vI x0]) rfl rfl rfl (by decide +kernel) (by simp [oneSlot]) (Nat.le_of_ble_eq_true rfl) rfl ?_
  refine aw_iload_n (k' := 0) (by decide +kernel) rfl ?_
  refine aw_bipush (n := 97) (by decide +kernel) (by decide +kernel) ?_
  refine ax_icmp_lt (off := 13) (tgt := 16) (x' := wr x0) (y' := 97) (by decide +kernel) (by decide) rfl (by decide +kernel) (fun hc => ?_) (fun hc => ?_)
  · have hF := hF.1 hc
    refine aw_iconst (n := 0) (by decide +kernel) ?_
    exact aw_zret (by decide +kernel) rfl rfl hF
  · have hF := hF.2 hc
    refine aw_iload_n (k' := 0) (by decide +kernel) rfl ?_
    refine aw_bipush (n := 122) (by decide +kernel) (by decide +kernel) ?_
    refine ax_icmp_gt (off := 7) (tgt := 16) (x' := wr x0) (y' := 122) (by decide +kernel) (by decide) rfl (by decide +kernel) (fun hc => ?_) (fun hc => ?_)
    · have hF := hF.1 hc
      refine aw_iconst (n := 0) (by decide +kernel) ?_
      exact aw_zret (by decide +kernel) rfl rfl hF
    · have hF := hF.2 hc
      refine aw_iconst (n := 1) (by decide +kernel) ?_
      refine aw_goto (off := 4) (tgt := 17) (by decide +kernel) (by decide) ?_
      exact aw_zret (by decide +kernel) rfl rfl hF

set_option maxHeartbeats 1000000 in
theorem wpX10_isDigit {Γ : Cfg} {l : Launch} {d b : Nat} {g : GG} {K : Ou → HP → Prop} {x0 : Int} (hF : (wr x0 < 48 → K (.inl (vI 0)) (stt g)) ∧ (¬ (wr x0 < 48) → (57 < wr x0 → K (.inl (vI 0)) (stt g)) ∧ (¬ (57 < wr x0) → K (.inl (vI 1)) (stt g)))) : Ct Γ l d b yX10_isDigit mX10_isDigit [vI x0] (stt g) K := by
  refine Ct.enter (L := [vI x0]) rfl rfl rfl (by decide +kernel) (by simp [oneSlot]) (Nat.le_of_ble_eq_true rfl) rfl ?_
  refine aw_iload_n (k' := 0) (by decide +kernel) rfl ?_
  refine aw_bipush (n := 48) (by decide +kernel) (by decide +kernel) ?_
  refine ax_icmp_lt (off := 13) (tgt := 16) (x' := wr x0) (y' := 48) (by decide +kernel) (by decide) rfl (by decide +kernel) (fun hc => ?_) (fun hc => ?_)
  · have hF := hF.1 hc
    refine aw_iconst (n := 0) (by decide +kernel) ?_
    exact aw_zret (by decide +kernel) rfl rfl hF
  · have hF := hF.2 hc
    refine aw_iload_n (k' := 0) (by decide +kernel) rfl ?_
    refine aw_bipush (n := 57) (by decide +kernel) (by decide +kernel) ?_
    refine ax_icmp_gt (off := 7) (tgt := 16) (x' := wr x0) (y' := 57) (by decide +kernel) (by decide) rfl (by decide +kernel) (fun hc => ?_) (fun hc => ?_)
    · have hF := hF.1 hc
      refine aw_iconst (n := 0) (by decide +kernel) ?_
      exact aw_zret (by decide +kernel) rfl rfl hF
    · have hF := hF.2 hc
      refine aw_iconst (n := 1) (by decide +kernel) ?_
      refine aw_goto (off := 4) (tgt := 17) (by decide +kernel) (by decide) ?_
      exact aw_zret (by decide +kernel) rfl rfl hF

set_option maxHeartbeats 1000000 in
theorem wpX10_goOn {Γ : Cfg} {l : Launch} {d b : Nat} {g : GG} {K : Ou → HP → Prop} {x0 : Int} {x1 : Int} (hF : Ct Γ l d 0 yX10_isLetter mX10_isLetter [vI x0] (stt g) (bI (fun v1 g1 => (wr v1 = 0 → Ct Γ l d 0 yX10_isDigit mX10_isDigit [vI x0] (stt g1) (bI (fun v2 g2 => (wr v2 = 0 → K (.inl (vI 0)) (stt g2)) ∧ (¬ (wr v2 = 0) → Ct Γ l d 0 yX10_isDigit mX10_isDigit [vI x1] (stt g2) (bI (fun v3 g3 => (wr v3 = 0 → K (.inl (vI 0)) (stt g3)) ∧ (¬ (wr v3 = 0) → K (.inl (vI 1)) (stt g3))) K))) K)) ∧ (¬ (wr v1 = 0) → Ct Γ l d 0 yX10_isLetter mX10_isLetter [vI x1] (stt g1) (bI (fun v4 g4 => (¬ wr v4 = 0 → K (.inl (vI 1)) (stt g4)) ∧ (¬ (¬ wr v4 = 0) → Ct Γ l d 0 yX10_isDigit mX10_isDigit [vI x0] (stt g4) (bI (fun v5 g5 => (wr v5 = 0 → K (.inl (vI 0)) (stt g5)) ∧ (¬ (wr v5 = 0) → Ct Γ l d 0 yX10_isDigit mX10_isDigit [vI x1] (stt g5) (bI (fun v6 g6 => (wr v6 = 0 → K (.inl (vI 0)) (stt g6)) ∧ (¬ (wr v6 = 0) → K (.inl (vI 1)) (stt g6))) K))) K))) K))) K)) : Ct Γ l (d + 1) b yX10_goOn mX10_goOn [vI x0, vI x1] (stt g) K := by
  refine Ct.enter (L := [vI x0, vI x1]) rfl rfl rfl (by decide +kernel) (by simp [oneSlot]) (Nat.le_of_ble_eq_true rfl) rfl ?_
  refine aw_iload_n (k' := 0) (by decide +kernel) rfl ?_
  refine aw_callS (y := yX10_isLetter) (M2 := mX10_isLetter) (as := [vI x0]) (S := []) (d2 := d) (b2 := 0) (b3 := b) cwX10_isLetter mlX10_78 stX10_isLetter (by decide +kernel) rfl (Nat.le_refl _) (Nat.le_of_eq (Nat.zero_add _)) rfl rfl (by simp [oneSlot]) (Nat.le_of_ble_eq_true rfl) (Ct.mono hF ?_)
  rintro o h' (⟨v1, g1, rfl, rfl, hG⟩ | ⟨E, g, rfl, rfl, hG⟩)
  · show AW Γ l mX10_goOn (d + 1) b 4 [vI x0, vI x1] [vI v1] (stt g1) K
    refine ax_if_eq (off := 10) (tgt := 14) (x' := wr v1) (by decide +kernel) (by decide) rfl (fun hc => ?_) (fun hc => ?_)
    · have hG := hG.1 hc
      refine aw_iload_n (k' := 0) (by decide +kernel) rfl ?_
      refine aw_callS (y := yX10_isDigit) (M2 := mX10_isDigit) (as := [vI x0]) (S := []) (d2 := d) (b2 := 0) (b3 := b) cwX10_isDigit mlX10_61 stX10_isDigit (by decide +kernel) rfl (Nat.le_refl _) (Nat.le_of_eq (Nat.zero_add _)) rfl rfl (by simp [oneSlot]) (Nat.le_of_ble_eq_true rfl) (Ct.mono hG ?_)
      rintro o h' (⟨v2, g2, rfl, rfl, hG⟩ | ⟨E, g, rfl, rfl, hG⟩)
      · show AW Γ l mX10_goOn (d + 1) b 18 [vI x0, vI x1] [vI v2] (stt g2) K
        refine ax_if_eq (off := 14) (tgt := 32) (x' := wr v2) (by decide +kernel) (by decide) rfl (fun hc => ?_) (fun hc => ?_)
        · have hG := hG.1 hc
          refine aw_iconst (n := 0) (by decide +kernel) ?_
          exact aw_zret (by decide +kernel) rfl rfl hG
        · have hG := hG.2 hc
          refine aw_iload_n (k' := 1) (by decide +kernel) rfl ?_
          refine aw_callS (y := yX10_isDigit) (M2 := mX10_isDigit) (as := [vI x1]) (S := []) (d2 := d) (b2 := 0) (b3 := b) cwX10_isDigit mlX10_61 stX10_isDigit (by decide +kernel) rfl (Nat.le_refl _) (Nat.le_of_eq (Nat.zero_add _)) rfl rfl (by simp [oneSlot]) (Nat.le_of_ble_eq_true rfl) (Ct.mono hG ?_)
          rintro o h' (⟨v3, g3, rfl, rfl, hG⟩ | ⟨E, g, rfl, rfl, hG⟩)
          · show AW Γ l mX10_goOn (d + 1) b 25 [vI x0, vI x1] [vI v3] (stt g3) K
            refine ax_if_eq (off := 7) (tgt := 32) (x' := wr v3) (by decide +kernel) (by decide) rfl (fun hc => ?_) (fun hc => ?_)
            · have hG := hG.1 hc
              refine aw_iconst (n := 0) (by decide +kernel) ?_
              exact aw_zret (by decide +kernel) rfl rfl hG
            · have hG := hG.2 hc
              refine aw_iconst (n := 1) (by decide +kernel) ?_
              refine aw_goto (off := 4) (tgt := 33) (by decide +kernel) (by decide) ?_
              exact aw_zret (by decide +kernel) rfl rfl hG
          · exact hG
      · exact hG
    · have hG := hG.2 hc
      refine aw_iload_n (k' := 1) (by decide +kernel) rfl ?_
      refine aw_callS (y := yX10_isLetter) (M2 := mX10_isLetter) (as := [vI x1]) (S := []) (d2 := d) (b2 := 0) (b3 := b) cwX10_isLetter mlX10_78 stX10_isLetter (by decide +kernel) rfl (Nat.le_refl _) (Nat.le_of_eq (Nat.zero_add _)) rfl rfl (by simp [oneSlot]) (Nat.le_of_ble_eq_true rfl) (Ct.mono hG ?_)
      rintro o h' (⟨v4, g4, rfl, rfl, hG⟩ | ⟨E, g, rfl, rfl, hG⟩)
      · show AW Γ l mX10_goOn (d + 1) b 11 [vI x0, vI x1] [vI v4] (stt g4) K
        refine ax_if_ne (off := 17) (tgt := 28) (x' := wr v4) (by decide +kernel) (by decide) rfl (fun hc => ?_) (fun hc => ?_)
        · have hG := hG.1 hc
          refine aw_iconst (n := 1) (by decide +kernel) ?_
          refine aw_goto (off := 4) (tgt := 33) (by decide +kernel) (by decide) ?_
          exact aw_zret (by decide +kernel) rfl rfl hG
        · have hG := hG.2 hc
          refine aw_iload_n (k' := 0) (by decide +kernel) rfl ?_
          refine aw_callS (y := yX10_isDigit) (M2 := mX10_isDigit) (as := [vI x0]) (S := []) (d2 := d) (b2 := 0) (b3 := b) cwX10_isDigit mlX10_61 stX10_isDigit (by decide +kernel) rfl (Nat.le_refl _) (Nat.le_of_eq (Nat.zero_add _)) rfl rfl (by simp [oneSlot]) (Nat.le_of_ble_eq_true rfl) (Ct.mono hG ?_)
          rintro o h' (⟨v5, g5, rfl, rfl, hG⟩ | ⟨E, g, rfl, rfl, hG⟩)
          · show AW Γ l mX10_goOn (d + 1) b 18 [vI x0, vI x1] [vI v5] (stt g5) K
            refine ax_if_eq (off := 14) (tgt := 32) (x' := wr v5) (by decide +kernel) (by decide) rfl (fun hc => ?_) (fun hc => ?_)
            · have hG := hG.1 hc
              refine aw_iconst (n := 0) (by decide +kernel) ?_
              exact aw_zret (by decide +kernel) rfl rfl hG
            · have hG := hG.2 hc
              refine aw_iload_n (k' := 1) (by decide +kernel) rfl ?_
              refine aw_callS (y := yX10_isDigit) (M2 := mX10_isDigit) (as := [vI x1]) (S := []) (d2 := d) (b2 := 0) (b3 := b) cwX10_isDigit mlX10_61 stX10_isDigit (by decide +kernel) rfl (Nat.le_refl _) (Nat.le_of_eq (Nat.zero_add _)) rfl rfl (by simp [oneSlot]) (Nat.le_of_ble_eq_true rfl) (Ct.mono hG ?_)
              rintro o h' (⟨v6, g6, rfl, rfl, hG⟩ | ⟨E, g, rfl, rfl, hG⟩)
              · show AW Γ l mX10_goOn (d + 1) b 25 [vI x0, vI x1] [vI v6] (stt g6) K
                refine ax_if_eq (off := 7) (tgt := 32) (x' := wr v6) (by decide +kernel) (by decide) rfl (fun hc => ?_) (fun hc => ?_)
                · have hG := hG.1 hc
                  refine aw_iconst (n := 0) (by decide +kernel) ?_
                  exact aw_zret (by decide +kernel) rfl rfl hG
                · have hG := hG.2 hc
                  refine aw_iconst (n := 1) (by decide +kernel) ?_
                  refine aw_goto (off := 4) (tgt := 33) (by decide +kernel) (by decide) ?_
                  exact aw_zret (by decide +kernel) rfl rfl hG
              · exact hG
          · exact hG
      · exact hG
  · exact hG

set_option maxHeartbeats 1000000 in
theorem wpX10_beginsSign {Γ : Cfg} {l : Launch} {d b : Nat} {g : GG} {K : Ou → HP → Prop} {r0 : Int} (hr0 : IA r0) {x1 : Int} (hF : (wr (cel g r0 x1) = 32 → K (.inl (vI 0)) (stt g)) ∧ (¬ (wr (cel g r0 x1) = 32) → (wr x1 = 0 → K (.inl (vI 1)) (stt g)) ∧ (¬ (wr x1 = 0) → Ct Γ l d 0 yX10_goOn mX10_goOn [vI (cel g r0 (x1 - 1)), vI (cel g r0 x1)] (stt g) (bI (fun v1 g1 => (¬ wr v1 = 0 → K (.inl (vI 0)) (stt g1)) ∧ (¬ (¬ wr v1 = 0) → K (.inl (vI 1)) (stt g1))) K)))) : Ct Γ l (d + 1) b yX10_beginsSign mX10_beginsSign [vR r0, vI x1] (stt g) K := by
  refine Ct.enter (L := [vR r0, vI x1, vU]) rfl rfl rfl (by decide +kernel) (by simp [oneSlot]) (Nat.le_of_ble_eq_true rfl) rfl ?_
  refine aw_aload_n (k' := 0) (by decide +kernel) rfl ?_
  refine aw_iload_n (k' := 1) (by decide +kernel) rfl ?_
  refine aw_callSN (host := "HalfOaths") (y := yX11_cell) (M2 := mX11_cell) (as := [vR r0, vI x1]) (S := []) (d2 := d) (b2 := 0) (b3 := b) cwX11_cell mlX10_57 stX11_cell (by decide +kernel) rfl (Nat.le_refl _) (Nat.le_of_eq (Nat.zero_add _)) rfl rfl (by simp [oneSlot]) (Nat.le_of_ble_eq_true rfl) (c_cell hr0 ?_)
  show AW Γ l mX10_beginsSign (d + 1) b 5 [vR r0, vI x1, vU] [vI (cel g r0 x1)] (stt g) K
  refine aw_istore_n (k' := 2) (by decide +kernel) (by decide) ?_
  show AW Γ l mX10_beginsSign (d + 1) b 6 [vR r0, vI x1, vI (cel g r0 x1)] [] (stt g) K
  refine aw_iload_n (k' := 2) (by decide +kernel) rfl ?_
  refine aw_bipush (n := 32) (by decide +kernel) (by decide +kernel) ?_
  refine ax_icmp_eq (off := 25) (tgt := 34) (x' := wr (cel g r0 x1)) (y' := 32) (by decide +kernel) (by decide) rfl (by decide +kernel) (fun hc => ?_) (fun hc => ?_)
  · have hF := hF.1 hc
    refine aw_iconst (n := 0) (by decide +kernel) ?_
    exact aw_zret (by decide +kernel) rfl rfl hF
  · have hF := hF.2 hc
    refine aw_iload_n (k' := 1) (by decide +kernel) rfl ?_
    refine ax_if_eq (off := 17) (tgt := 30) (x' := wr x1) (by decide +kernel) (by decide) rfl (fun hc => ?_) (fun hc => ?_)
    · have hF := hF.1 hc
      refine aw_iconst (n := 1) (by decide +kernel) ?_
      refine aw_goto (off := 4) (tgt := 35) (by decide +kernel) (by decide) ?_
      exact aw_zret (by decide +kernel) rfl rfl hF
    · have hF := hF.2 hc
      refine aw_aload_n (k' := 0) (by decide +kernel) rfl ?_
      refine aw_iload_n (k' := 1) (by decide +kernel) rfl ?_
      refine aw_iconst (n := 1) (by decide +kernel) ?_
      refine aw_isub (by decide +kernel) ?_
      refine aw_callSN (host := "HalfOaths") (y := yX11_cell) (M2 := mX11_cell) (as := [vR r0, vI (x1 - 1)]) (S := []) (d2 := d) (b2 := 0) (b3 := b) cwX11_cell mlX10_57 stX11_cell (by decide +kernel) rfl (Nat.le_refl _) (Nat.le_of_eq (Nat.zero_add _)) rfl rfl (by simp [oneSlot]) (Nat.le_of_ble_eq_true rfl) (c_cell hr0 ?_)
      show AW Γ l mX10_beginsSign (d + 1) b 23 [vR r0, vI x1, vI (cel g r0 x1)] [vI (cel g r0 (x1 - 1))] (stt g) K
      refine aw_iload_n (k' := 2) (by decide +kernel) rfl ?_
      refine aw_callS (y := yX10_goOn) (M2 := mX10_goOn) (as := [vI (cel g r0 (x1 - 1)), vI (cel g r0 x1)]) (S := []) (d2 := d) (b2 := 0) (b3 := b) cwX10_goOn mlX10_81 stX10_goOn (by decide +kernel) rfl (Nat.le_refl _) (Nat.le_of_eq (Nat.zero_add _)) rfl rfl (by simp [oneSlot]) (Nat.le_of_ble_eq_true rfl) (Ct.mono hF ?_)
      rintro o h' (⟨v1, g1, rfl, rfl, hG⟩ | ⟨E, g, rfl, rfl, hG⟩)
      · show AW Γ l mX10_beginsSign (d + 1) b 27 [vR r0, vI x1, vI (cel g r0 x1)] [vI v1] (stt g1) K
        refine ax_if_ne (off := 7) (tgt := 34) (x' := wr v1) (by decide +kernel) (by decide) rfl (fun hc => ?_) (fun hc => ?_)
        · have hG := hG.1 hc
          refine aw_iconst (n := 0) (by decide +kernel) ?_
          exact aw_zret (by decide +kernel) rfl rfl hG
        · have hG := hG.2 hc
          refine aw_iconst (n := 1) (by decide +kernel) ?_
          refine aw_goto (off := 4) (tgt := 35) (by decide +kernel) (by decide) ?_
          exact aw_zret (by decide +kernel) rfl rfl hG
      · exact hG

set_option maxHeartbeats 1000000 in
theorem wpX10_endOf {Γ : Cfg} {l : Launch} {d b : Nat} {g : GG} {K : Ou → HP → Prop} {r0 : Int} (hr0 : IA r0) {x1 : Int} {x2 : Int} (hF : AW Γ l mX10_endOf (d + 1) b 4 [vR r0, vI x1, vI x2, vI (x1 + 1)] [] (stt g) K) : Ct Γ l (d + 1) b yX10_endOf mX10_endOf [vR r0, vI x1, vI x2] (stt g) K := by
  refine Ct.enter (L := [vR r0, vI x1, vI x2, vU]) rfl rfl rfl (by decide +kernel) (by simp [oneSlot]) (Nat.le_of_ble_eq_true rfl) rfl ?_
  refine aw_iload_n (k' := 1) (by decide +kernel) rfl ?_
  refine aw_iconst (n := 1) (by decide +kernel) ?_
  refine aw_iadd (by decide +kernel) ?_
  refine aw_istore_n (k' := 3) (by decide +kernel) (by decide) ?_
  show AW Γ l mX10_endOf (d + 1) b 4 [vR r0, vI x1, vI x2, vI (x1 + 1)] [] (stt g) K
  exact hF
set_option maxHeartbeats 1000000 in
theorem wpX10_endOf_4 {Γ : Cfg} {l : Launch} {d b : Nat} {g : GG} {K : Ou → HP → Prop} {r0 : Int} (hr0 : IA r0) {x1 : Int} {x2 : Int} {y3 : Int} (hF : (wr x2 ≤ wr y3 → K (.inl (vI y3)) (stt g)) ∧ (¬ (wr x2 ≤ wr y3) → Ct Γ l d 0 yX10_goOn mX10_goOn [vI (cel g r0 (y3 - 1)), vI (cel g r0 y3)] (stt g) (bI (fun v1 g1 => (wr v1 = 0 → K (.inl (vI y3)) (stt g1)) ∧ (¬ (wr v1 = 0) → AW Γ l mX10_endOf (d + 1) b 4 [vR r0, vI x1, vI x2, vI (y3 + 1)] [] (stt g1) K)) K))) : AW Γ l mX10_endOf (d + 1) b 4 [vR r0, vI x1, vI x2, vI y3] [] (stt g) K := by
  refine aw_iload_n (k' := 3) (by decide +kernel) rfl ?_
  refine aw_iload_n (k' := 2) (by decide +kernel) rfl ?_
  refine ax_icmp_ge (off := 27) (tgt := 33) (x' := wr y3) (y' := wr x2) (by decide +kernel) (by decide) rfl rfl (fun hc => ?_) (fun hc => ?_)
  · have hF := hF.1 hc
    refine aw_iload_n (k' := 3) (by decide +kernel) rfl ?_
    exact aw_iret (by decide +kernel) rfl hF
  · have hF := hF.2 hc
    refine aw_aload_n (k' := 0) (by decide +kernel) rfl ?_
    refine aw_iload_n (k' := 3) (by decide +kernel) rfl ?_
    refine aw_iconst (n := 1) (by decide +kernel) ?_
    refine aw_isub (by decide +kernel) ?_
    refine aw_callSN (host := "HalfOaths") (y := yX11_cell) (M2 := mX11_cell) (as := [vR r0, vI (y3 - 1)]) (S := []) (d2 := d) (b2 := 0) (b3 := b) cwX11_cell mlX10_57 stX11_cell (by decide +kernel) rfl (Nat.le_refl _) (Nat.le_of_eq (Nat.zero_add _)) rfl rfl (by simp [oneSlot]) (Nat.le_of_ble_eq_true rfl) (c_cell hr0 ?_)
    show AW Γ l mX10_endOf (d + 1) b 16 [vR r0, vI x1, vI x2, vI y3] [vI (cel g r0 (y3 - 1))] (stt g) K
    refine aw_aload_n (k' := 0) (by decide +kernel) rfl ?_
    refine aw_iload_n (k' := 3) (by decide +kernel) rfl ?_
    refine aw_callSN (host := "HalfOaths") (y := yX11_cell) (M2 := mX11_cell) (as := [vR r0, vI y3]) (S := [vI (cel g r0 (y3 - 1))]) (d2 := d) (b2 := 0) (b3 := b) cwX11_cell mlX10_57 stX11_cell (by decide +kernel) rfl (Nat.le_refl _) (Nat.le_of_eq (Nat.zero_add _)) rfl rfl (by simp [oneSlot]) (Nat.le_of_ble_eq_true rfl) (c_cell hr0 ?_)
    show AW Γ l mX10_endOf (d + 1) b 21 [vR r0, vI x1, vI x2, vI y3] [vI (cel g r0 y3), vI (cel g r0 (y3 - 1))] (stt g) K
    refine aw_callS (y := yX10_goOn) (M2 := mX10_goOn) (as := [vI (cel g r0 (y3 - 1)), vI (cel g r0 y3)]) (S := []) (d2 := d) (b2 := 0) (b3 := b) cwX10_goOn mlX10_81 stX10_goOn (by decide +kernel) rfl (Nat.le_refl _) (Nat.le_of_eq (Nat.zero_add _)) rfl rfl (by simp [oneSlot]) (Nat.le_of_ble_eq_true rfl) (Ct.mono hF ?_)
    rintro o h' (⟨v1, g1, rfl, rfl, hG⟩ | ⟨E, g, rfl, rfl, hG⟩)
    · show AW Γ l mX10_endOf (d + 1) b 24 [vR r0, vI x1, vI x2, vI y3] [vI v1] (stt g1) K
      refine ax_if_eq (off := 9) (tgt := 33) (x' := wr v1) (by decide +kernel) (by decide) rfl (fun hc => ?_) (fun hc => ?_)
      · have hG := hG.1 hc
        refine aw_iload_n (k' := 3) (by decide +kernel) rfl ?_
        exact aw_iret (by decide +kernel) rfl hG
      · have hG := hG.2 hc
        refine aw_iinc (i := 3) (n := 1) (by decide +kernel) rfl (by decide) ?_
        show AW Γ l mX10_endOf (d + 1) b 30 [vR r0, vI x1, vI x2, vI (y3 + 1)] [] (stt g1) K
        refine aw_goto (off := -26) (tgt := 4) (by decide +kernel) (by decide) ?_
        exact hG
    · exact hG

set_option maxHeartbeats 1000000 in
theorem wpX10_numberOf {Γ : Cfg} {l : Launch} {d b : Nat} {g : GG} {K : Ou → HP → Prop} {r0 : Int} (hr0 : IA r0) {x1 : Int} {x2 : Int} (hF : AW Γ l mX10_numberOf (d + 1) b 5 [vR r0, vI x1, vI x2, vI 0, vI x1] [] (stt g) K) : Ct Γ l (d + 1) b yX10_numberOf mX10_numberOf [vR r0, vI x1, vI x2] (stt g) K := by
  refine Ct.enter (L := [vR r0, vI x1, vI x2, vU, vU]) rfl rfl rfl (by decide +kernel) (by simp [oneSlot]) (Nat.le_of_ble_eq_true rfl) rfl ?_
  refine aw_iconst (n := 0) (by decide +kernel) ?_
  refine aw_istore_n (k' := 3) (by decide +kernel) (by decide) ?_
  show AW Γ l mX10_numberOf (d + 1) b 2 [vR r0, vI x1, vI x2, vI 0, vU] [] (stt g) K
  refine aw_iload_n (k' := 1) (by decide +kernel) rfl ?_
  refine aw_istore (i := 4) (by decide +kernel) (by decide) ?_
  show AW Γ l mX10_numberOf (d + 1) b 5 [vR r0, vI x1, vI x2, vI 0, vI x1] [] (stt g) K
  exact hF
set_option maxHeartbeats 1000000 in
theorem wpX10_numberOf_5 {Γ : Cfg} {l : Launch} {d b : Nat} {g : GG} {K : Ou → HP → Prop} {r0 : Int} (hr0 : IA r0) {x1 : Int} {x2 : Int} {y3 : Int} {y4 : Int} (hF : (wr x2 ≤ wr y4 → K (.inl (vI y3)) (stt g)) ∧ (¬ (wr x2 ≤ wr y4) → AW Γ l mX10_numberOf (d + 1) b 5 [vR r0, vI x1, vI x2, vI (((y3 * 10) + (cel g r0 y4)) - 48), vI (y4 + 1)] [] (stt g) K)) : AW Γ l mX10_numberOf (d + 1) b 5 [vR r0, vI x1, vI x2, vI y3, vI y4] [] (stt g) K := by
  refine aw_iload (i := 4) (by decide +kernel) rfl ?_
  refine aw_iload_n (k' := 2) (by decide +kernel) rfl ?_
  refine ax_icmp_ge (off := 24) (tgt := 32) (x' := wr y4) (y' := wr x2) (by decide +kernel) (by decide) rfl rfl (fun hc => ?_) (fun hc => ?_)
  · have hF := hF.1 hc
    refine aw_iload_n (k' := 3) (by decide +kernel) rfl ?_
    exact aw_iret (by decide +kernel) rfl hF
  · have hF := hF.2 hc
    refine aw_iload_n (k' := 3) (by decide +kernel) rfl ?_
    refine aw_bipush (n := 10) (by decide +kernel) (by decide +kernel) ?_
    refine aw_imul (by decide +kernel) ?_
    refine aw_aload_n (k' := 0) (by decide +kernel) rfl ?_
    refine aw_iload (i := 4) (by decide +kernel) rfl ?_
    refine aw_callSN (host := "HalfOaths") (y := yX11_cell) (M2 := mX11_cell) (as := [vR r0, vI y4]) (S := [vI (y3 * 10)]) (d2 := d) (b2 := 0) (b3 := b) cwX11_cell mlX10_57 stX11_cell (by decide +kernel) rfl (Nat.le_refl _) (Nat.le_of_eq (Nat.zero_add _)) rfl rfl (by simp [oneSlot]) (Nat.le_of_ble_eq_true rfl) (c_cell hr0 ?_)
    show AW Γ l mX10_numberOf (d + 1) b 21 [vR r0, vI x1, vI x2, vI y3, vI y4] [vI (cel g r0 y4), vI (y3 * 10)] (stt g) K
    refine aw_iadd (by decide +kernel) ?_
    refine aw_bipush (n := 48) (by decide +kernel) (by decide +kernel) ?_
    refine aw_isub (by decide +kernel) ?_
    refine aw_istore_n (k' := 3) (by decide +kernel) (by decide) ?_
    show AW Γ l mX10_numberOf (d + 1) b 26 [vR r0, vI x1, vI x2, vI (((y3 * 10) + (cel g r0 y4)) - 48), vI y4] [] (stt g) K
    refine aw_iinc (i := 4) (n := 1) (by decide +kernel) rfl (by decide) ?_
    show AW Γ l mX10_numberOf (d + 1) b 29 [vR r0, vI x1, vI x2, vI (((y3 * 10) + (cel g r0 y4)) - 48), vI (y4 + 1)] [] (stt g) K
    refine aw_goto (off := -24) (tgt := 5) (by decide +kernel) (by decide) ?_
    exact hF

set_option maxHeartbeats 1000000 in
theorem wpX10_signOf {Γ : Cfg} {l : Launch} {d b : Nat} {g : GG} {K : Ou → HP → Prop} {r0 : Int} (hr0 : IA r0) {x1 : Int} {x2 : Int} (hF : Ct Γ l d 0 yX10_isDigit mX10_isDigit [vI (cel g r0 x1)] (stt g) (bI (fun v1 g1 => (wr v1 = 0 → AW Γ l mX10_signOf (d + 1) b 39 [vR r0, vI x1, vI x2, vR 1040, vI 39, vI 0, vU] [] (stt g1) K) ∧ (¬ (wr v1 = 0) → (3 < wr (x2 - x1) → K (.inl (vR 1038)) (stt g1)) ∧ (¬ (3 < wr (x2 - x1)) → K (.inl (vR 1036)) (stt g1)))) K)) : Ct Γ l (d + 1) b yX10_signOf mX10_signOf [vR r0, vI x1, vI x2] (stt g) K := by
  refine Ct.enter (L := [vR r0, vI x1, vI x2, vU, vU, vU, vU]) rfl rfl rfl (by decide +kernel) (by simp [oneSlot]) (Nat.le_of_ble_eq_true rfl) rfl ?_
  refine aw_aload_n (k' := 0) (by decide +kernel) rfl ?_
  refine aw_iload_n (k' := 1) (by decide +kernel) rfl ?_
  refine aw_callSN (host := "HalfOaths") (y := yX11_cell) (M2 := mX11_cell) (as := [vR r0, vI x1]) (S := []) (d2 := d) (b2 := 0) (b3 := b) cwX11_cell mlX10_57 stX11_cell (by decide +kernel) rfl (Nat.le_refl _) (Nat.le_of_eq (Nat.zero_add _)) rfl rfl (by simp [oneSlot]) (Nat.le_of_ble_eq_true rfl) (c_cell hr0 ?_)
  show AW Γ l mX10_signOf (d + 1) b 5 [vR r0, vI x1, vI x2, vU, vU, vU, vU] [vI (cel g r0 x1)] (stt g) K
  refine aw_callS (y := yX10_isDigit) (M2 := mX10_isDigit) (as := [vI (cel g r0 x1)]) (S := []) (d2 := d) (b2 := 0) (b3 := b) cwX10_isDigit mlX10_61 stX10_isDigit (by decide +kernel) rfl (Nat.le_refl _) (Nat.le_of_eq (Nat.zero_add _)) rfl rfl (by simp [oneSlot]) (Nat.le_of_ble_eq_true rfl) (Ct.mono hF ?_)
  rintro o h' (⟨v1, g1, rfl, rfl, hG⟩ | ⟨E, g, rfl, rfl, hG⟩)
  · show AW Γ l mX10_signOf (d + 1) b 8 [vR r0, vI x1, vI x2, vU, vU, vU, vU] [vI v1] (stt g1) K
    refine ax_if_eq (off := 20) (tgt := 28) (x' := wr v1) (by decide +kernel) (by decide) rfl (fun hc => ?_) (fun hc => ?_)
    · have hG := hG.1 hc
      refine aw_signs (idx := 88) (by decide +kernel) (fun hown hts hnw => Or.inr ⟨"HalfOaths", va_Nw.use rfl (hnw _ (tn3 127 (by decide +kernel) (by decide +kernel)))⟩) ?_
      refine aw_astore_n (k' := 3) (by decide +kernel) (by decide) ?_
      show AW Γ l mX10_signOf (d + 1) b 32 [vR r0, vI x1, vI x2, vR 1040, vU, vU, vU] [] (stt g1) K
      refine aw_aload_n (k' := 3) (by decide +kernel) rfl ?_
      refine aw_signsLen (by decide +kernel) ?_
      show AW Γ l mX10_signOf (d + 1) b 34 [vR r0, vI x1, vI x2, vR 1040, vU, vU, vU] [vI 39] (stt g1) K
      refine aw_istore (i := 4) (by decide +kernel) (by decide) ?_
      show AW Γ l mX10_signOf (d + 1) b 36 [vR r0, vI x1, vI x2, vR 1040, vI 39, vU, vU] [] (stt g1) K
      refine aw_iconst (n := 0) (by decide +kernel) ?_
      refine aw_istore (i := 5) (by decide +kernel) (by decide) ?_
      show AW Γ l mX10_signOf (d + 1) b 39 [vR r0, vI x1, vI x2, vR 1040, vI 39, vI 0, vU] [] (stt g1) K
      exact hG
    · have hG := hG.2 hc
      refine aw_iload_n (k' := 2) (by decide +kernel) rfl ?_
      refine aw_iload_n (k' := 1) (by decide +kernel) rfl ?_
      refine aw_isub (by decide +kernel) ?_
      refine aw_iconst (n := 3) (by decide +kernel) ?_
      refine ax_icmp_gt (off := 9) (tgt := 24) (x' := wr (x2 - x1)) (y' := 3) (by decide +kernel) (by decide) rfl (by decide +kernel) (fun hc => ?_) (fun hc => ?_)
      · have hG := hG.1 hc
        refine aw_sign' (idx := 85) (i := 38) (r := 1038) (by decide +kernel) (by decide) (by decide) (fun hown hts hnw => Or.inl (hts _ (tm3 125 (by decide +kernel) (by decide +kernel)))) ?_
        exact aw_aret (by decide +kernel) rfl hG
      · have hG := hG.2 hc
        refine aw_sign' (idx := 75) (i := 36) (r := 1036) (by decide +kernel) (by decide) (by decide) (fun hown hts hnw => Or.inl (hts _ (tm3 123 (by decide +kernel) (by decide +kernel)))) ?_
        refine aw_goto (off := 6) (tgt := 27) (by decide +kernel) (by decide) ?_
        exact aw_aret (by decide +kernel) rfl hG
  · exact hG
set_option maxHeartbeats 1000000 in
theorem wpX10_signOf_39 {Γ : Cfg} {l : Launch} {d b : Nat} {g : GG} {K : Ou → HP → Prop} {r0 : Int} (hr0 : IA r0) {x1 : Int} {x2 : Int} {y4 : Int} {y5 : Int} (hF : (wr y4 ≤ wr y5 → K (.inl (vR 1038)) (stt g)) ∧ (¬ (wr y4 ≤ wr y5) → (0 ≤ wr y5 ∧ wr y5 < 39) ∧ ((SG (1000 + (wr y5))) ∧ (Ct Γ l d 0 yX10_spells mX10_spells [vR (sgS (1000 + (wr y5))), vR r0, vI x1, vI x2] (stt g) (bI (fun v1 g1 => (wr v1 = 0 → AW Γ l mX10_signOf (d + 1) b 39 [vR r0, vI x1, vI x2, vR 1040, vI y4, vI (y5 + 1), vR (1000 + (wr y5))] [] (stt g1) K) ∧ (¬ (wr v1 = 0) → K (.inl (vR (1000 + (wr y5)))) (stt g1))) K))))) : AW Γ l mX10_signOf (d + 1) b 39 [vR r0, vI x1, vI x2, vR 1040, vI y4, vI y5, vU] [] (stt g) K := by
  refine aw_iload (i := 5) (by decide +kernel) rfl ?_
  refine aw_iload (i := 4) (by decide +kernel) rfl ?_
  refine ax_icmp_ge (off := 32) (tgt := 75) (x' := wr y5) (y' := wr y4) (by decide +kernel) (by decide) rfl rfl (fun hc => ?_) (fun hc => ?_)
  · have hF := hF.1 hc
    refine aw_sign' (idx := 85) (i := 38) (r := 1038) (by decide +kernel) (by decide) (by decide) (fun hown hts hnw => Or.inl (hts _ (tm3 125 (by decide +kernel) (by decide +kernel)))) ?_
    exact aw_aret (by decide +kernel) rfl hF
  · have hF := hF.2 hc
    refine aw_aload_n (k' := 3) (by decide +kernel) rfl ?_
    refine aw_iload (i := 5) (by decide +kernel) rfl ?_
    refine aw_signsAt (i := wr y5) (by decide +kernel) rfl hF.1 ?_
    replace hF := hF.2
    refine aw_astore (i := 6) (by decide +kernel) (by decide) ?_
    show AW Γ l mX10_signOf (d + 1) b 52 [vR r0, vI x1, vI x2, vR 1040, vI y4, vI y5, vR (1000 + (wr y5))] [] (stt g) K
    refine aw_aload (i := 6) (by decide +kernel) rfl ?_
    refine aw_stf (idx := 91) (v := vR (sgS (1000 + (wr y5)))) (hF.1).1 (fun hS => ofSGs hF.1 hS) (fun hown hts hnw => Or.inr ⟨"HalfOaths", va_Nw.use rfl (hnw _ (tn9 131 (by decide +kernel) (by decide +kernel)))⟩) (by decide +kernel) ?_
    replace hF := hF.2
    refine aw_aload_n (k' := 0) (by decide +kernel) rfl ?_
    refine aw_iload_n (k' := 1) (by decide +kernel) rfl ?_
    refine aw_iload_n (k' := 2) (by decide +kernel) rfl ?_
    refine aw_callS (y := yX10_spells) (M2 := mX10_spells) (as := [vR (sgS (1000 + (wr y5))), vR r0, vI x1, vI x2]) (S := []) (d2 := d) (b2 := 0) (b3 := b) cwX10_spells mlX10_95 stX10_spells (by decide +kernel) rfl (Nat.le_refl _) (Nat.le_of_eq (Nat.zero_add _)) rfl rfl (by simp [oneSlot]) (Nat.le_of_ble_eq_true rfl) (Ct.mono hF ?_)
    rintro o h' (⟨v1, g1, rfl, rfl, hG⟩ | ⟨E, g, rfl, rfl, hG⟩)
    · show AW Γ l mX10_signOf (d + 1) b 63 [vR r0, vI x1, vI x2, vR 1040, vI y4, vI y5, vR (1000 + (wr y5))] [vI v1] (stt g1) K
      refine ax_if_eq (off := 6) (tgt := 69) (x' := wr v1) (by decide +kernel) (by decide) rfl (fun hc => ?_) (fun hc => ?_)
      · have hG := hG.1 hc
        refine aw_iinc (i := 5) (n := 1) (by decide +kernel) rfl (by decide) ?_
        show AW Γ l mX10_signOf (d + 1) b 72 [vR r0, vI x1, vI x2, vR 1040, vI y4, vI (y5 + 1), vR (1000 + (wr y5))] [] (stt g1) K
        refine aw_goto (off := -33) (tgt := 39) (by decide +kernel) (by decide) ?_
        exact hG
      · have hG := hG.2 hc
        refine aw_aload (i := 6) (by decide +kernel) rfl ?_
        exact aw_aret (by decide +kernel) rfl hG
    · exact hG

set_option maxHeartbeats 1000000 in
theorem wpX10_spells {Γ : Cfg} {l : Launch} {d b : Nat} {g : GG} {K : Ou → HP → Prop} {t0 : Int} (ht0 : SS t0) {r1 : Int} (hr1 : IA r1) {x2 : Int} {x3 : Int} (hF : (wr (ssL t0) = wr (x3 - x2) → AW Γ l mX10_spells (d + 4) b 15 [vR t0, vR r1, vI x2, vI x3, vI 0] [] (stt g) K) ∧ (¬ (wr (ssL t0) = wr (x3 - x2)) → K (.inl (vI 0)) (stt g))) : Ct Γ l (d + 4) b yX10_spells mX10_spells [vR t0, vR r1, vI x2, vI x3] (stt g) K := by
  refine Ct.enter (L := [vR t0, vR r1, vI x2, vI x3, vU]) rfl rfl rfl (by decide +kernel) (by simp [oneSlot]) (Nat.le_of_ble_eq_true rfl) rfl ?_
  refine aw_aload_n (k' := 0) (by decide +kernel) rfl ?_
  refine aw_callO (y := yJ0_length_8abf5) (M2 := mJ0_length_8abf5) (as := []) (S := []) (r := t0) (d2 := (d + 3)) (b2 := 0) (b3 := b) cwJ0_length_8abf5 mlX10_99 imJ0_length_8abf5 seJ0_length_8abf5 (by decide +kernel) rfl (by have := (ht0).1; omega) (fun hS => recSS ht0 hS) (Nat.le_refl _) (Nat.le_of_eq (Nat.zero_add _)) rfl rfl (by simp [oneSlot]) (Nat.le_of_ble_eq_true rfl) (c_len ht0 ?_)
  show AW Γ l mX10_spells (d + 4) b 4 [vR t0, vR r1, vI x2, vI x3, vU] [vI (ssL t0)] (stt g) K
  refine aw_iload_n (k' := 3) (by decide +kernel) rfl ?_
  refine aw_iload_n (k' := 2) (by decide +kernel) rfl ?_
  refine aw_isub (by decide +kernel) ?_
  refine ax_icmp_eq (off := 5) (tgt := 12) (x' := wr (ssL t0)) (y' := wr (x3 - x2)) (by decide +kernel) (by decide) rfl rfl (fun hc => ?_) (fun hc => ?_)
  · have hF := hF.1 hc
    refine aw_iconst (n := 0) (by decide +kernel) ?_
    refine aw_istore (i := 4) (by decide +kernel) (by decide) ?_
    show AW Γ l mX10_spells (d + 4) b 15 [vR t0, vR r1, vI x2, vI x3, vI 0] [] (stt g) K
    exact hF
  · have hF := hF.2 hc
    refine aw_iconst (n := 0) (by decide +kernel) ?_
    exact aw_zret (by decide +kernel) rfl rfl hF
set_option maxHeartbeats 1000000 in
theorem wpX10_spells_15 {Γ : Cfg} {l : Launch} {d b : Nat} {g : GG} {K : Ou → HP → Prop} {t0 : Int} (ht0 : SS t0) {r1 : Int} (hr1 : IA r1) {x2 : Int} {x3 : Int} {y4 : Int} (hF : (wr (ssL t0) ≤ wr y4 → K (.inl (vI 1)) (stt g)) ∧ (¬ (wr (ssL t0) ≤ wr y4) → (0 ≤ wr y4 ∧ wr y4 < ssL t0) ∧ ((wr ((ssB t0).getD (wr y4).toNat 0) = wr (cel g r1 (x2 + y4)) → AW Γ l mX10_spells (d + 4) b 15 [vR t0, vR r1, vI x2, vI x3, vI (y4 + 1)] [] (stt g) K) ∧ (¬ (wr ((ssB t0).getD (wr y4).toNat 0) = wr (cel g r1 (x2 + y4))) → K (.inl (vI 0)) (stt g))))) : AW Γ l mX10_spells (d + 4) b 15 [vR t0, vR r1, vI x2, vI x3, vI y4] [] (stt g) K := by
  refine aw_iload (i := 4) (by decide +kernel) rfl ?_
  refine aw_aload_n (k' := 0) (by decide +kernel) rfl ?_
  refine aw_callO (y := yJ0_length_8abf5) (M2 := mJ0_length_8abf5) (as := []) (S := [vI y4]) (r := t0) (d2 := (d + 3)) (b2 := 0) (b3 := b) cwJ0_length_8abf5 mlX10_99 imJ0_length_8abf5 seJ0_length_8abf5 (by decide +kernel) rfl (by have := (ht0).1; omega) (fun hS => recSS ht0 hS) (Nat.le_refl _) (Nat.le_of_eq (Nat.zero_add _)) rfl rfl (by simp [oneSlot]) (Nat.le_of_ble_eq_true rfl) (c_len ht0 ?_)
  show AW Γ l mX10_spells (d + 4) b 21 [vR t0, vR r1, vI x2, vI x3, vI y4] [vI (ssL t0), vI y4] (stt g) K
  refine ax_icmp_ge (off := 28) (tgt := 49) (x' := wr y4) (y' := wr (ssL t0)) (by decide +kernel) (by decide) rfl rfl (fun hc => ?_) (fun hc => ?_)
  · have hF := hF.1 hc
    refine aw_iconst (n := 1) (by decide +kernel) ?_
    exact aw_zret (by decide +kernel) rfl rfl hF
  · have hF := hF.2 hc
    refine aw_aload_n (k' := 0) (by decide +kernel) rfl ?_
    refine aw_iload (i := 4) (by decide +kernel) rfl ?_
    refine aw_callO (y := yJ0_charAt_5068e) (M2 := mJ0_charAt_5068e) (as := [vI y4]) (S := []) (r := t0) (d2 := (d + 3)) (b2 := 0) (b3 := b) cwJ0_charAt_5068e mlX10_105 imJ0_charAt_5068e seJ0_charAt_5068e (by decide +kernel) rfl (by have := (ht0).1; omega) (fun hS => recSS ht0 hS) (Nat.le_refl _) (Nat.le_of_eq (Nat.zero_add _)) rfl rfl (by simp [oneSlot]) (Nat.le_of_ble_eq_true rfl) (c_charAt2 ht0 hF.1 ?_)
    show AW Γ l mX10_spells (d + 4) b 30 [vR t0, vR r1, vI x2, vI x3, vI y4] [vI ((ssB t0).getD (wr y4).toNat 0)] (stt g) K
    replace hF := hF.2
    refine aw_aload_n (k' := 1) (by decide +kernel) rfl ?_
    refine aw_iload_n (k' := 2) (by decide +kernel) rfl ?_
    refine aw_iload (i := 4) (by decide +kernel) rfl ?_
    refine aw_iadd (by decide +kernel) ?_
    refine aw_callSN (host := "HalfOaths") (y := yX11_cell) (M2 := mX11_cell) (as := [vR r1, vI (x2 + y4)]) (S := [vI ((ssB t0).getD (wr y4).toNat 0)]) (d2 := (d + 3)) (b2 := 0) (b3 := b) cwX11_cell mlX10_57 stX11_cell (by decide +kernel) rfl (Nat.le_refl _) (Nat.le_of_eq (Nat.zero_add _)) rfl rfl (by simp [oneSlot]) (Nat.le_of_ble_eq_true rfl) (c_cell hr1 ?_)
    show AW Γ l mX10_spells (d + 4) b 38 [vR t0, vR r1, vI x2, vI x3, vI y4] [vI (cel g r1 (x2 + y4)), vI ((ssB t0).getD (wr y4).toNat 0)] (stt g) K
    refine ax_icmp_eq (off := 5) (tgt := 43) (x' := wr ((ssB t0).getD (wr y4).toNat 0)) (y' := wr (cel g r1 (x2 + y4))) (by decide +kernel) (by decide) rfl rfl (fun hc => ?_) (fun hc => ?_)
    · have hF := hF.1 hc
      refine aw_iinc (i := 4) (n := 1) (by decide +kernel) rfl (by decide) ?_
      show AW Γ l mX10_spells (d + 4) b 46 [vR t0, vR r1, vI x2, vI x3, vI (y4 + 1)] [] (stt g) K
      refine aw_goto (off := -31) (tgt := 15) (by decide +kernel) (by decide) ?_
      exact hF
    · have hF := hF.2 hc
      refine aw_iconst (n := 0) (by decide +kernel) ?_
      exact aw_zret (by decide +kernel) rfl rfl hF

