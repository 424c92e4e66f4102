/-! WALKS: the clause, the hills, the tape -/
set_option maxHeartbeats 1000000 in
theorem wpX0_clear {Γ : Cfg} {l : Launch} {d b : Nat} {g : GG} {K : Ou → HP → Prop} {t : Int} (ht : CU t) (hF : (∀ g1 : GG, g1 = upd2 (upd2 (upd2 g t 2 0) t 3 0) t 4 0 → (∀ g2 : GG, g2 = upd2 (upd2 (upd2 g1 t 5 10) t 6 0) t 7 0 → K (.inl vU) (stt g2)))) : Ct Γ l d b yX0_clear mX0_clear [vR t] (stt g) K := by
  refine Ct.enter (L := [vR t]) rfl rfl rfl (by decide +kernel) (by simp [oneSlot]) (Nat.le_of_ble_eq_true rfl) rfl ?_
  refine aw_aload_n (k' := 0) (by decide +kernel) rfl ?_
  refine aw_iconst (n := 0) (by decide +kernel) ?_
  refine pfX0_9 rfl (by decide +kernel) (OB.at ht.ob (by decide)) ?_
  show AW Γ l mX0_clear d b 5 [vR t] [] (stt (upd2 g t 2 0)) K
  refine aw_aload_n (k' := 0) (by decide +kernel) rfl ?_
  refine aw_iconst (n := 0) (by decide +kernel) ?_
  refine pfX0_15 rfl (by decide +kernel) (OB.at ht.ob (by decide)) ?_
  show AW Γ l mX0_clear d b 10 [vR t] [] (stt (upd2 (upd2 g t 2 0) t 3 0)) K
  refine aw_aload_n (k' := 0) (by decide +kernel) rfl ?_
  refine aw_iconst (n := 0) (by decide +kernel) ?_
  refine pfX0_18 rfl (by decide +kernel) (OB.at ht.ob (by decide)) ?_
  show AW Γ l mX0_clear d b 15 [vR t] [] (stt (upd2 (upd2 (upd2 g t 2 0) t 3 0) t 4 0)) K
  generalize eg1 : upd2 (upd2 (upd2 g t 2 0) t 3 0) t 4 0 = g1
  replace hF := hF g1 eg1.symm
  refine aw_aload_n (k' := 0) (by decide +kernel) rfl ?_
  refine aw_bipush (n := 10) (by decide +kernel) (by decide +kernel) ?_
  refine pfX0_21 rfl (by decide +kernel) (OB.at ht.ob (by decide)) ?_
  show AW Γ l mX0_clear d b 21 [vR t] [] (stt (upd2 g1 t 5 10)) K
  refine aw_aload_n (k' := 0) (by decide +kernel) rfl ?_
  refine aw_iconst (n := 0) (by decide +kernel) ?_
  refine pfX0_24 rfl (by decide +kernel) (OB.at ht.ob (by decide)) ?_
  show AW Γ l mX0_clear d b 26 [vR t] [] (stt (upd2 (upd2 g1 t 5 10) t 6 0)) K
  refine aw_aload_n (k' := 0) (by decide +kernel) rfl ?_
  refine aw_iconst (n := 0) (by decide +kernel) ?_
  refine pfX0_27 rfl (by decide +kernel) (OB.at ht.ob (by decide)) ?_
  show AW Γ l mX0_clear d b 31 [vR t] [] (stt (upd2 (upd2 (upd2 g1 t 5 10) t 6 0) t 7 0)) K
  generalize eg2 : upd2 (upd2 (upd2 g1 t 5 10) t 6 0) t 7 0 = g2
  replace hF := hF g2 eg2.symm
  exact aw_vret (by decide +kernel) rfl hF

set_option maxHeartbeats 1000000 in
theorem wpX0_take {Γ : Cfg} {l : Launch} {d b : Nat} {g : GG} {K : Ou → HP → Prop} {t : Int} (ht : CU t) {x1 : Int} {x2 : Int} (hF : (2 < wr x1 → (¬ wr x1 = 3 → (¬ wr x1 = 4 → (¬ wr x1 = 5 → (¬ wr x1 = 6 → (¬ wr x1 = 7 → K (.inl vU) (stt g)) ∧ (¬ (¬ wr x1 = 7) → (∀ g1 : GG, g1 = upd2 g t 6 (iOr (g t 6) (iShl 1 x2)) → K (.inl vU) (stt g1)))) ∧ (¬ (¬ wr x1 = 6) → K (.inl vU) (stt (upd2 g t 5 (iMin (g t 5) x2))))) ∧ (¬ (¬ wr x1 = 5) → K (.inl vU) (stt (upd2 g t 7 (1 - (g t 7)))))) ∧ (¬ (¬ wr x1 = 4) → (∀ g2 : GG, g2 = upd2 g t 4 (iOr (g t 4) (iShl 1 x2)) → K (.inl vU) (stt g2)))) ∧ (¬ (¬ wr x1 = 3) → (∀ g3 : GG, g3 = upd2 g t 3 (iMin 99 ((g t 3) + x2)) → K (.inl vU) (stt g3)))) ∧ (¬ (2 < wr x1) → (¬ wr (g t 2) = 0 → (¬ wr x1 = 3 → (¬ wr x1 = 4 → (¬ wr x1 = 5 → (¬ wr x1 = 6 → (¬ wr x1 = 7 → K (.inl vU) (stt g)) ∧ (¬ (¬ wr x1 = 7) → (∀ g4 : GG, g4 = upd2 g t 6 (iOr (g t 6) (iShl 1 x2)) → K (.inl vU) (stt g4)))) ∧ (¬ (¬ wr x1 = 6) → K (.inl vU) (stt (upd2 g t 5 (iMin (g t 5) x2))))) ∧ (¬ (¬ wr x1 = 5) → K (.inl vU) (stt (upd2 g t 7 (1 - (g t 7)))))) ∧ (¬ (¬ wr x1 = 4) → (∀ g5 : GG, g5 = upd2 g t 4 (iOr (g t 4) (iShl 1 x2)) → K (.inl vU) (stt g5)))) ∧ (¬ (¬ wr x1 = 3) → (∀ g6 : GG, g6 = upd2 g t 3 (iMin 99 ((g t 3) + x2)) → K (.inl vU) (stt g6)))) ∧ (¬ (¬ wr (g t 2) = 0) → K (.inl vU) (stt (upd2 g t 2 (x1 + 1)))))) : Ct Γ l d b yX0_take mX0_take [vR t, vI x1, vI x2] (stt g) K := by
  refine Ct.enter (L := [vR t, vI x1, vI x2]) rfl rfl rfl (by decide +kernel) (by simp [oneSlot]) (Nat.le_of_ble_eq_true rfl) rfl ?_
  refine aw_iload_n (k' := 1) (by decide +kernel) rfl ?_
  refine aw_iconst (n := 2) (by decide +kernel) ?_
  refine ax_icmp_gt (off := 20) (tgt := 22) (x' := wr x1) (y' := 2) (by decide +kernel) (by decide) rfl (by decide +kernel) (fun hc => ?_) (fun hc => ?_)
  · have hF := hF.1 hc
    refine aw_iload_n (k' := 1) (by decide +kernel) rfl ?_
    refine aw_iconst (n := 3) (by decide +kernel) ?_
    refine ax_icmp_ne (off := 21) (tgt := 45) (x' := wr x1) (y' := 3) (by decide +kernel) (by decide) rfl (by decide +kernel) (fun hc => ?_) (fun hc => ?_)
    · have hF := hF.1 hc
      refine aw_iload_n (k' := 1) (by decide +kernel) rfl ?_
      refine aw_iconst (n := 4) (by decide +kernel) ?_
      refine ax_icmp_ne (off := 18) (tgt := 65) (x' := wr x1) (y' := 4) (by decide +kernel) (by decide) rfl (by decide +kernel) (fun hc => ?_) (fun hc => ?_)
      · have hF := hF.1 hc
        refine aw_iload_n (k' := 1) (by decide +kernel) rfl ?_
        refine aw_iconst (n := 5) (by decide +kernel) ?_
        refine ax_icmp_ne (off := 16) (tgt := 83) (x' := wr x1) (y' := 5) (by decide +kernel) (by decide) rfl (by decide +kernel) (fun hc => ?_) (fun hc => ?_)
        · have hF := hF.1 hc
          refine aw_iload_n (k' := 1) (by decide +kernel) rfl ?_
          refine aw_bipush (n := 6) (by decide +kernel) (by decide +kernel) ?_
          refine ax_icmp_ne (off := 18) (tgt := 104) (x' := wr x1) (y' := 6) (by decide +kernel) (by decide) rfl (by decide +kernel) (fun hc => ?_) (fun hc => ?_)
          · have hF := hF.1 hc
            refine aw_iload_n (k' := 1) (by decide +kernel) rfl ?_
            refine aw_bipush (n := 7) (by decide +kernel) (by decide +kernel) ?_
            refine ax_icmp_ne (off := 15) (tgt := 122) (x' := wr x1) (y' := 7) (by decide +kernel) (by decide) rfl (by decide +kernel) (fun hc => ?_) (fun hc => ?_)
            · have hF := hF.1 hc
              exact aw_vret (by decide +kernel) rfl hF
            · have hF := hF.2 hc
              refine aw_aload_n (k' := 0) (by decide +kernel) rfl ?_
              refine aw_dup (by decide +kernel) trivial ?_
              refine gfX0_24 rfl (by decide +kernel) (OB.at ht.ob (by decide)) ?_
              refine aw_iconst (n := 1) (by decide +kernel) ?_
              refine aw_iload_n (k' := 2) (by decide +kernel) rfl ?_
              refine aw_ishl (by decide +kernel) ?_
              refine aw_ior (by decide +kernel) ?_
              refine pfX0_24 rfl (by decide +kernel) (OB.at ht.ob (by decide)) ?_
              show AW Γ l mX0_take d b 122 [vR t, vI x1, vI x2] [] (stt (upd2 g t 6 (iOr (g t 6) (iShl 1 x2)))) K
              generalize eg1 : upd2 g t 6 (iOr (g t 6) (iShl 1 x2)) = g1
              replace hF := hF g1 eg1.symm
              exact aw_vret (by decide +kernel) rfl hF
          · have hF := hF.2 hc
            refine aw_aload_n (k' := 0) (by decide +kernel) rfl ?_
            refine aw_aload_n (k' := 0) (by decide +kernel) rfl ?_
            refine gfX0_21 rfl (by decide +kernel) (OB.at ht.ob (by decide)) ?_
            refine aw_iload_n (k' := 2) (by decide +kernel) rfl ?_
            refine aw_mmin (by decide +kernel) mlX0_30 stJ9_min_7cf53 cwM_init cwM_min (by simp [oneSlot]) (Nat.le_of_ble_eq_true rfl) ?_
            refine pfX0_21 rfl (by decide +kernel) (OB.at ht.ob (by decide)) ?_
            show AW Γ l mX0_take d b 101 [vR t, vI x1, vI x2] [] (stt (upd2 g t 5 (iMin (g t 5) x2))) K
            refine aw_goto (off := 21) (tgt := 122) (by decide +kernel) (by decide) ?_
            exact aw_vret (by decide +kernel) rfl hF
        · have hF := hF.2 hc
          refine aw_aload_n (k' := 0) (by decide +kernel) rfl ?_
          refine aw_iconst (n := 1) (by decide +kernel) ?_
          refine aw_aload_n (k' := 0) (by decide +kernel) rfl ?_
          refine gfX0_27 rfl (by decide +kernel) (OB.at ht.ob (by decide)) ?_
          refine aw_isub (by decide +kernel) ?_
          refine pfX0_27 rfl (by decide +kernel) (OB.at ht.ob (by decide)) ?_
          show AW Γ l mX0_take d b 80 [vR t, vI x1, vI x2] [] (stt (upd2 g t 7 (1 - (g t 7)))) K
          refine aw_goto (off := 42) (tgt := 122) (by decide +kernel) (by decide) ?_
          exact aw_vret (by decide +kernel) rfl hF
      · have hF := hF.2 hc
        refine aw_aload_n (k' := 0) (by decide +kernel) rfl ?_
        refine aw_dup (by decide +kernel) trivial ?_
        refine gfX0_18 rfl (by decide +kernel) (OB.at ht.ob (by decide)) ?_
        refine aw_iconst (n := 1) (by decide +kernel) ?_
        refine aw_iload_n (k' := 2) (by decide +kernel) rfl ?_
        refine aw_ishl (by decide +kernel) ?_
        refine aw_ior (by decide +kernel) ?_
        refine pfX0_18 rfl (by decide +kernel) (OB.at ht.ob (by decide)) ?_
        show AW Γ l mX0_take d b 62 [vR t, vI x1, vI x2] [] (stt (upd2 g t 4 (iOr (g t 4) (iShl 1 x2)))) K
        generalize eg2 : upd2 g t 4 (iOr (g t 4) (iShl 1 x2)) = g2
        replace hF := hF g2 eg2.symm
        refine aw_goto (off := 60) (tgt := 122) (by decide +kernel) (by decide) ?_
        exact aw_vret (by decide +kernel) rfl hF
    · have hF := hF.2 hc
      refine aw_aload_n (k' := 0) (by decide +kernel) rfl ?_
      refine aw_bipush (n := 99) (by decide +kernel) (by decide +kernel) ?_
      refine aw_aload_n (k' := 0) (by decide +kernel) rfl ?_
      refine gfX0_15 rfl (by decide +kernel) (OB.at ht.ob (by decide)) ?_
      refine aw_iload_n (k' := 2) (by decide +kernel) rfl ?_
      refine aw_iadd (by decide +kernel) ?_
      refine aw_mmin (by decide +kernel) mlX0_30 stJ9_min_7cf53 cwM_init cwM_min (by simp [oneSlot]) (Nat.le_of_ble_eq_true rfl) ?_
      refine pfX0_15 rfl (by decide +kernel) (OB.at ht.ob (by decide)) ?_
      show AW Γ l mX0_take d b 42 [vR t, vI x1, vI x2] [] (stt (upd2 g t 3 (iMin 99 ((g t 3) + x2)))) K
      generalize eg3 : upd2 g t 3 (iMin 99 ((g t 3) + x2)) = g3
      replace hF := hF g3 eg3.symm
      refine aw_goto (off := 80) (tgt := 122) (by decide +kernel) (by decide) ?_
      exact aw_vret (by decide +kernel) rfl hF
  · have hF := hF.2 hc
    refine aw_aload_n (k' := 0) (by decide +kernel) rfl ?_
    refine gfX0_9 rfl (by decide +kernel) (OB.at ht.ob (by decide)) ?_
    refine ax_if_ne (off := 13) (tgt := 22) (x' := wr (g t 2)) (by decide +kernel) (by decide) rfl (fun hc => ?_) (fun hc => ?_)
    · have hF := hF.1 hc
      refine aw_iload_n (k' := 1) (by decide +kernel) rfl ?_
      refine aw_iconst (n := 3) (by decide +kernel) ?_
      refine ax_icmp_ne (off := 21) (tgt := 45) (x' := wr x1) (y' := 3) (by decide +kernel) (by decide) rfl (by decide +kernel) (fun hc => ?_) (fun hc => ?_)
      · have hF := hF.1 hc
        refine aw_iload_n (k' := 1) (by decide +kernel) rfl ?_
        refine aw_iconst (n := 4) (by decide +kernel) ?_
        refine ax_icmp_ne (off := 18) (tgt := 65) (x' := wr x1) (y' := 4) (by decide +kernel) (by decide) rfl (by decide +kernel) (fun hc => ?_) (fun hc => ?_)
        · have hF := hF.1 hc
          refine aw_iload_n (k' := 1) (by decide +kernel) rfl ?_
          refine aw_iconst (n := 5) (by decide +kernel) ?_
          refine ax_icmp_ne (off := 16) (tgt := 83) (x' := wr x1) (y' := 5) (by decide +kernel) (by decide) rfl (by decide +kernel) (fun hc => ?_) (fun hc => ?_)
          · have hF := hF.1 hc
            refine aw_iload_n (k' := 1) (by decide +kernel) rfl ?_
            refine aw_bipush (n := 6) (by decide +kernel) (by decide +kernel) ?_
            refine ax_icmp_ne (off := 18) (tgt := 104) (x' := wr x1) (y' := 6) (by decide +kernel) (by decide) rfl (by decide +kernel) (fun hc => ?_) (fun hc => ?_)
            · have hF := hF.1 hc
              refine aw_iload_n (k' := 1) (by decide +kernel) rfl ?_
              refine aw_bipush (n := 7) (by decide +kernel) (by decide +kernel) ?_
              refine ax_icmp_ne (off := 15) (tgt := 122) (x' := wr x1) (y' := 7) (by decide +kernel) (by decide) rfl (by decide +kernel) (fun hc => ?_) (fun hc => ?_)
              · have hF := hF.1 hc
                exact aw_vret (by decide +kernel) rfl hF
              · have hF := hF.2 hc
                refine aw_aload_n (k' := 0) (by decide +kernel) rfl ?_
                refine aw_dup (by decide +kernel) trivial ?_
                refine gfX0_24 rfl (by decide +kernel) (OB.at ht.ob (by decide)) ?_
                refine aw_iconst (n := 1) (by decide +kernel) ?_
                refine aw_iload_n (k' := 2) (by decide +kernel) rfl ?_
                refine aw_ishl (by decide +kernel) ?_
                refine aw_ior (by decide +kernel) ?_
                refine pfX0_24 rfl (by decide +kernel) (OB.at ht.ob (by decide)) ?_
                show AW Γ l mX0_take d b 122 [vR t, vI x1, vI x2] [] (stt (upd2 g t 6 (iOr (g t 6) (iShl 1 x2)))) K
                generalize eg4 : upd2 g t 6 (iOr (g t 6) (iShl 1 x2)) = g4
                replace hF := hF g4 eg4.symm
                exact aw_vret (by decide +kernel) rfl hF
            · have hF := hF.2 hc
              refine aw_aload_n (k' := 0) (by decide +kernel) rfl ?_
              refine aw_aload_n (k' := 0) (by decide +kernel) rfl ?_
              refine gfX0_21 rfl (by decide +kernel) (OB.at ht.ob (by decide)) ?_
              refine aw_iload_n (k' := 2) (by decide +kernel) rfl ?_
              refine aw_mmin (by decide +kernel) mlX0_30 stJ9_min_7cf53 cwM_init cwM_min (by simp [oneSlot]) (Nat.le_of_ble_eq_true rfl) ?_
              refine pfX0_21 rfl (by decide +kernel) (OB.at ht.ob (by decide)) ?_
              show AW Γ l mX0_take d b 101 [vR t, vI x1, vI x2] [] (stt (upd2 g t 5 (iMin (g t 5) x2))) K
              refine aw_goto (off := 21) (tgt := 122) (by decide +kernel) (by decide) ?_
              exact aw_vret (by decide +kernel) rfl hF
          · have hF := hF.2 hc
            refine aw_aload_n (k' := 0) (by decide +kernel) rfl ?_
            refine aw_iconst (n := 1) (by decide +kernel) ?_
            refine aw_aload_n (k' := 0) (by decide +kernel) rfl ?_
            refine gfX0_27 rfl (by decide +kernel) (OB.at ht.ob (by decide)) ?_
            refine aw_isub (by decide +kernel) ?_
            refine pfX0_27 rfl (by decide +kernel) (OB.at ht.ob (by decide)) ?_
            show AW Γ l mX0_take d b 80 [vR t, vI x1, vI x2] [] (stt (upd2 g t 7 (1 - (g t 7)))) K
            refine aw_goto (off := 42) (tgt := 122) (by decide +kernel) (by decide) ?_
            exact aw_vret (by decide +kernel) rfl hF
        · have hF := hF.2 hc
          refine aw_aload_n (k' := 0) (by decide +kernel) rfl ?_
          refine aw_dup (by decide +kernel) trivial ?_
          refine gfX0_18 rfl (by decide +kernel) (OB.at ht.ob (by decide)) ?_
          refine aw_iconst (n := 1) (by decide +kernel) ?_
          refine aw_iload_n (k' := 2) (by decide +kernel) rfl ?_
          refine aw_ishl (by decide +kernel) ?_
          refine aw_ior (by decide +kernel) ?_
          refine pfX0_18 rfl (by decide +kernel) (OB.at ht.ob (by decide)) ?_
          show AW Γ l mX0_take d b 62 [vR t, vI x1, vI x2] [] (stt (upd2 g t 4 (iOr (g t 4) (iShl 1 x2)))) K
          generalize eg5 : upd2 g t 4 (iOr (g t 4) (iShl 1 x2)) = g5
          replace hF := hF g5 eg5.symm
          refine aw_goto (off := 60) (tgt := 122) (by decide +kernel) (by decide) ?_
          exact aw_vret (by decide +kernel) rfl hF
      · have hF := hF.2 hc
        refine aw_aload_n (k' := 0) (by decide +kernel) rfl ?_
        refine aw_bipush (n := 99) (by decide +kernel) (by decide +kernel) ?_
        refine aw_aload_n (k' := 0) (by decide +kernel) rfl ?_
        refine gfX0_15 rfl (by decide +kernel) (OB.at ht.ob (by decide)) ?_
        refine aw_iload_n (k' := 2) (by decide +kernel) rfl ?_
        refine aw_iadd (by decide +kernel) ?_
        refine aw_mmin (by decide +kernel) mlX0_30 stJ9_min_7cf53 cwM_init cwM_min (by simp [oneSlot]) (Nat.le_of_ble_eq_true rfl) ?_
        refine pfX0_15 rfl (by decide +kernel) (OB.at ht.ob (by decide)) ?_
        show AW Γ l mX0_take d b 42 [vR t, vI x1, vI x2] [] (stt (upd2 g t 3 (iMin 99 ((g t 3) + x2)))) K
        generalize eg6 : upd2 g t 3 (iMin 99 ((g t 3) + x2)) = g6
        replace hF := hF g6 eg6.symm
        refine aw_goto (off := 80) (tgt := 122) (by decide +kernel) (by decide) ?_
        exact aw_vret (by decide +kernel) rfl hF
    · have hF := hF.2 hc
      refine aw_aload_n (k' := 0) (by decide +kernel) rfl ?_
      refine aw_iload_n (k' := 1) (by decide +kernel) rfl ?_
      refine aw_iconst (n := 1) (by decide +kernel) ?_
      refine aw_iadd (by decide +kernel) ?_
      refine pfX0_9 rfl (by decide +kernel) (OB.at ht.ob (by decide)) ?_
      show AW Γ l mX0_take d b 19 [vR t, vI x1, vI x2] [] (stt (upd2 g t 2 (x1 + 1))) K
      refine aw_goto (off := 103) (tgt := 122) (by decide +kernel) (by decide) ?_
      exact aw_vret (by decide +kernel) rfl hF

set_option maxHeartbeats 1000000 in
theorem wpX0_lay {Γ : Cfg} {l : Launch} {d b : Nat} {g : GG} {K : Ou → HP → Prop} {t : Int} (ht : CU t) {t1 : Int} (ht1 : CU t1) (hF : (¬ wr (g t 2) = 0 → (∀ g1 : GG, g1 = upd2 g t 3 (iMin 99 ((g t 3) + (g t1 3))) → (∀ g2 : GG, g2 = upd2 g1 t 4 (iOr (g1 t 4) (g1 t1 4)) → (∀ g3 : GG, g3 = upd2 g2 t 5 (iMin (g2 t 5) (g2 t1 5)) → (∀ g4 : GG, g4 = upd2 g3 t 6 (iOr (g3 t 6) (g3 t1 6)) → (∀ g5 : GG, g5 = upd2 g4 t 7 (iXor (g4 t 7) (g4 t1 7)) → K (.inl vU) (stt g5))))))) ∧ (¬ (¬ wr (g t 2) = 0) → (∀ g6 : GG, g6 = upd2 (upd2 g t 2 (g t1 2)) t 3 (iMin 99 (((upd2 g t 2 (g t1 2)) t 3) + ((upd2 g t 2 (g t1 2)) t1 3))) → (∀ g7 : GG, g7 = upd2 g6 t 4 (iOr (g6 t 4) (g6 t1 4)) → (∀ g8 : GG, g8 = upd2 g7 t 5 (iMin (g7 t 5) (g7 t1 5)) → (∀ g9 : GG, g9 = upd2 g8 t 6 (iOr (g8 t 6) (g8 t1 6)) → (∀ g10 : GG, g10 = upd2 g9 t 7 (iXor (g9 t 7) (g9 t1 7)) → K (.inl vU) (stt g10)))))))) : Ct Γ l d b yX0_lay mX0_lay [vR t, vR t1] (stt g) K := by
  refine Ct.enter (L := [vR t, vR t1]) rfl rfl rfl (by decide +kernel) (by simp [oneSlot]) (Nat.le_of_ble_eq_true rfl) rfl ?_
  refine aw_aload_n (k' := 0) (by decide +kernel) rfl ?_
  refine gfX0_9 rfl (by decide +kernel) (OB.at ht.ob (by decide)) ?_
  refine ax_if_ne (off := 11) (tgt := 15) (x' := wr (g t 2)) (by decide +kernel) (by decide) rfl (fun hc => ?_) (fun hc => ?_)
  · have hF := hF.1 hc
    refine aw_aload_n (k' := 0) (by decide +kernel) rfl ?_
    refine aw_bipush (n := 99) (by decide +kernel) (by decide +kernel) ?_
    refine aw_aload_n (k' := 0) (by decide +kernel) rfl ?_
    refine gfX0_15 rfl (by decide +kernel) (OB.at ht.ob (by decide)) ?_
    refine aw_aload_n (k' := 1) (by decide +kernel) rfl ?_
    refine gfX0_15 rfl (by decide +kernel) (OB.at ht1.ob (by decide)) ?_
    refine aw_iadd (by decide +kernel) ?_
    refine aw_mmin (by decide +kernel) mlX0_30 stJ9_min_7cf53 cwM_init cwM_min (by simp [oneSlot]) (Nat.le_of_ble_eq_true rfl) ?_
    refine pfX0_15 rfl (by decide +kernel) (OB.at ht.ob (by decide)) ?_
    show AW Γ l mX0_lay d b 33 [vR t, vR t1] [] (stt (upd2 g t 3 (iMin 99 ((g t 3) + (g t1 3))))) K
    generalize eg1 : upd2 g t 3 (iMin 99 ((g t 3) + (g t1 3))) = g1
    replace hF := hF g1 eg1.symm
    refine aw_aload_n (k' := 0) (by decide +kernel) rfl ?_
    refine aw_dup (by decide +kernel) trivial ?_
    refine gfX0_18 rfl (by decide +kernel) (OB.at ht.ob (by decide)) ?_
    refine aw_aload_n (k' := 1) (by decide +kernel) rfl ?_
    refine gfX0_18 rfl (by decide +kernel) (OB.at ht1.ob (by decide)) ?_
    refine aw_ior (by decide +kernel) ?_
    refine pfX0_18 rfl (by decide +kernel) (OB.at ht.ob (by decide)) ?_
    show AW Γ l mX0_lay d b 46 [vR t, vR t1] [] (stt (upd2 g1 t 4 (iOr (g1 t 4) (g1 t1 4)))) K
    generalize eg2 : upd2 g1 t 4 (iOr (g1 t 4) (g1 t1 4)) = g2
    replace hF := hF g2 eg2.symm
    refine aw_aload_n (k' := 0) (by decide +kernel) rfl ?_
    refine aw_aload_n (k' := 0) (by decide +kernel) rfl ?_
    refine gfX0_21 rfl (by decide +kernel) (OB.at ht.ob (by decide)) ?_
    refine aw_aload_n (k' := 1) (by decide +kernel) rfl ?_
    refine gfX0_21 rfl (by decide +kernel) (OB.at ht1.ob (by decide)) ?_
    refine aw_mmin (by decide +kernel) mlX0_30 stJ9_min_7cf53 cwM_init cwM_min (by simp [oneSlot]) (Nat.le_of_ble_eq_true rfl) ?_
    refine pfX0_21 rfl (by decide +kernel) (OB.at ht.ob (by decide)) ?_
    show AW Γ l mX0_lay d b 61 [vR t, vR t1] [] (stt (upd2 g2 t 5 (iMin (g2 t 5) (g2 t1 5)))) K
    generalize eg3 : upd2 g2 t 5 (iMin (g2 t 5) (g2 t1 5)) = g3
    replace hF := hF g3 eg3.symm
    refine aw_aload_n (k' := 0) (by decide +kernel) rfl ?_
    refine aw_dup (by decide +kernel) trivial ?_
    refine gfX0_24 rfl (by decide +kernel) (OB.at ht.ob (by decide)) ?_
    refine aw_aload_n (k' := 1) (by decide +kernel) rfl ?_
    refine gfX0_24 rfl (by decide +kernel) (OB.at ht1.ob (by decide)) ?_
    refine aw_ior (by decide +kernel) ?_
    refine pfX0_24 rfl (by decide +kernel) (OB.at ht.ob (by decide)) ?_
    show AW Γ l mX0_lay d b 74 [vR t, vR t1] [] (stt (upd2 g3 t 6 (iOr (g3 t 6) (g3 t1 6)))) K
    generalize eg4 : upd2 g3 t 6 (iOr (g3 t 6) (g3 t1 6)) = g4
    replace hF := hF g4 eg4.symm
    refine aw_aload_n (k' := 0) (by decide +kernel) rfl ?_
    refine aw_dup (by decide +kernel) trivial ?_
    refine gfX0_27 rfl (by decide +kernel) (OB.at ht.ob (by decide)) ?_
    refine aw_aload_n (k' := 1) (by decide +kernel) rfl ?_
    refine gfX0_27 rfl (by decide +kernel) (OB.at ht1.ob (by decide)) ?_
    refine aw_ixor (by decide +kernel) ?_
    refine pfX0_27 rfl (by decide +kernel) (OB.at ht.ob (by decide)) ?_
    show AW Γ l mX0_lay d b 87 [vR t, vR t1] [] (stt (upd2 g4 t 7 (iXor (g4 t 7) (g4 t1 7)))) K
    generalize eg5 : upd2 g4 t 7 (iXor (g4 t 7) (g4 t1 7)) = g5
    replace hF := hF g5 eg5.symm
    exact aw_vret (by decide +kernel) rfl hF
  · have hF := hF.2 hc
    refine aw_aload_n (k' := 0) (by decide +kernel) rfl ?_
    refine aw_aload_n (k' := 1) (by decide +kernel) rfl ?_
    refine gfX0_9 rfl (by decide +kernel) (OB.at ht1.ob (by decide)) ?_
    refine pfX0_9 rfl (by decide +kernel) (OB.at ht.ob (by decide)) ?_
    show AW Γ l mX0_lay d b 15 [vR t, vR t1] [] (stt (upd2 g t 2 (g t1 2))) K
    refine aw_aload_n (k' := 0) (by decide +kernel) rfl ?_
    refine aw_bipush (n := 99) (by decide +kernel) (by decide +kernel) ?_
    refine aw_aload_n (k' := 0) (by decide +kernel) rfl ?_
    refine gfX0_15 rfl (by decide +kernel) (OB.at ht.ob (by decide)) ?_
    refine aw_aload_n (k' := 1) (by decide +kernel) rfl ?_
    refine gfX0_15 rfl (by decide +kernel) (OB.at ht1.ob (by decide)) ?_
    refine aw_iadd (by decide +kernel) ?_
    refine aw_mmin (by decide +kernel) mlX0_30 stJ9_min_7cf53 cwM_init cwM_min (by simp [oneSlot]) (Nat.le_of_ble_eq_true rfl) ?_
    refine pfX0_15 rfl (by decide +kernel) (OB.at ht.ob (by decide)) ?_
    show AW Γ l mX0_lay d b 33 [vR t, vR t1] [] (stt (upd2 (upd2 g t 2 (g t1 2)) t 3 (iMin 99 (((upd2 g t 2 (g t1 2)) t 3) + ((upd2 g t 2 (g t1 2)) t1 3))))) K
    generalize eg6 : upd2 (upd2 g t 2 (g t1 2)) t 3 (iMin 99 (((upd2 g t 2 (g t1 2)) t 3) + ((upd2 g t 2 (g t1 2)) t1 3))) = g6
    replace hF := hF g6 eg6.symm
    refine aw_aload_n (k' := 0) (by decide +kernel) rfl ?_
    refine aw_dup (by decide +kernel) trivial ?_
    refine gfX0_18 rfl (by decide +kernel) (OB.at ht.ob (by decide)) ?_
    refine aw_aload_n (k' := 1) (by decide +kernel) rfl ?_
    refine gfX0_18 rfl (by decide +kernel) (OB.at ht1.ob (by decide)) ?_
    refine aw_ior (by decide +kernel) ?_
    refine pfX0_18 rfl (by decide +kernel) (OB.at ht.ob (by decide)) ?_
    show AW Γ l mX0_lay d b 46 [vR t, vR t1] [] (stt (upd2 g6 t 4 (iOr (g6 t 4) (g6 t1 4)))) K
    generalize eg7 : upd2 g6 t 4 (iOr (g6 t 4) (g6 t1 4)) = g7
    replace hF := hF g7 eg7.symm
    refine aw_aload_n (k' := 0) (by decide +kernel) rfl ?_
    refine aw_aload_n (k' := 0) (by decide +kernel) rfl ?_
    refine gfX0_21 rfl (by decide +kernel) (OB.at ht.ob (by decide)) ?_
    refine aw_aload_n (k' := 1) (by decide +kernel) rfl ?_
    refine gfX0_21 rfl (by decide +kernel) (OB.at ht1.ob (by decide)) ?_
    refine aw_mmin (by decide +kernel) mlX0_30 stJ9_min_7cf53 cwM_init cwM_min (by simp [oneSlot]) (Nat.le_of_ble_eq_true rfl) ?_
    refine pfX0_21 rfl (by decide +kernel) (OB.at ht.ob (by decide)) ?_
    show AW Γ l mX0_lay d b 61 [vR t, vR t1] [] (stt (upd2 g7 t 5 (iMin (g7 t 5) (g7 t1 5)))) K
    generalize eg8 : upd2 g7 t 5 (iMin (g7 t 5) (g7 t1 5)) = g8
    replace hF := hF g8 eg8.symm
    refine aw_aload_n (k' := 0) (by decide +kernel) rfl ?_
    refine aw_dup (by decide +kernel) trivial ?_
    refine gfX0_24 rfl (by decide +kernel) (OB.at ht.ob (by decide)) ?_
    refine aw_aload_n (k' := 1) (by decide +kernel) rfl ?_
    refine gfX0_24 rfl (by decide +kernel) (OB.at ht1.ob (by decide)) ?_
    refine aw_ior (by decide +kernel) ?_
    refine pfX0_24 rfl (by decide +kernel) (OB.at ht.ob (by decide)) ?_
    show AW Γ l mX0_lay d b 74 [vR t, vR t1] [] (stt (upd2 g8 t 6 (iOr (g8 t 6) (g8 t1 6)))) K
    generalize eg9 : upd2 g8 t 6 (iOr (g8 t 6) (g8 t1 6)) = g9
    replace hF := hF g9 eg9.symm
    refine aw_aload_n (k' := 0) (by decide +kernel) rfl ?_
    refine aw_dup (by decide +kernel) trivial ?_
    refine gfX0_27 rfl (by decide +kernel) (OB.at ht.ob (by decide)) ?_
    refine aw_aload_n (k' := 1) (by decide +kernel) rfl ?_
    refine gfX0_27 rfl (by decide +kernel) (OB.at ht1.ob (by decide)) ?_
    refine aw_ixor (by decide +kernel) ?_
    refine pfX0_27 rfl (by decide +kernel) (OB.at ht.ob (by decide)) ?_
    show AW Γ l mX0_lay d b 87 [vR t, vR t1] [] (stt (upd2 g9 t 7 (iXor (g9 t 7) (g9 t1 7)))) K
    generalize eg10 : upd2 g9 t 7 (iXor (g9 t 7) (g9 t1 7)) = g10
    replace hF := hF g10 eg10.symm
    exact aw_vret (by decide +kernel) rfl hF

set_option maxHeartbeats 1000000 in
theorem wpX0_base {Γ : Cfg} {l : Launch} {d b : Nat} {g : GG} {K : Ou → HP → Prop} {t : Int} (ht : CU t) (hF : (¬ wr (g t 2) = 1 → (¬ wr (g t 2) = 2 → (¬ wr (g t 2) = 3 → (¬ wr (g t 7) = 1 → K (.inl (vI 0)) (stt g)) ∧ (¬ (¬ wr (g t 7) = 1) → K (.inl (vI (iDiv 0 2))) (stt g))) ∧ (¬ (¬ wr (g t 2) = 3) → (¬ wr (g t 7) = 1 → K (.inl (vI (iMax 0 (9 - (2 * (iBC (g t 4))))))) (stt g)) ∧ (¬ (¬ wr (g t 7) = 1) → K (.inl (vI (iDiv (iMax 0 (9 - (2 * (iBC (g t 4))))) 2))) (stt g)))) ∧ (¬ (¬ wr (g t 2) = 2) → (¬ wr (g t 7) = 1 → K (.inl (vI (12 - (g t 5)))) (stt g)) ∧ (¬ (¬ wr (g t 7) = 1) → K (.inl (vI (iDiv (12 - (g t 5)) 2))) (stt g)))) ∧ (¬ (¬ wr (g t 2) = 1) → (¬ wr (g t 7) = 1 → K (.inl (vI ((g t 3) + (2 * (iBC (g t 6)))))) (stt g)) ∧ (¬ (¬ wr (g t 7) = 1) → K (.inl (vI (iDiv ((g t 3) + (2 * (iBC (g t 6)))) 2))) (stt g)))) : Ct Γ l (d + 1) b yX0_base mX0_base [vR t] (stt g) K := by
  refine Ct.enter (L := [vR t, vU]) rfl rfl rfl (by decide +kernel) (by simp [oneSlot]) (Nat.le_of_ble_eq_true rfl) rfl ?_
  refine aw_iconst (n := 0) (by decide +kernel) ?_
  refine aw_istore_n (k' := 1) (by decide +kernel) (by decide) ?_
  show AW Γ l mX0_base (d + 1) b 2 [vR t, vI 0] [] (stt g) K
  refine aw_aload_n (k' := 0) (by decide +kernel) rfl ?_
  refine gfX0_9 rfl (by decide +kernel) (OB.at ht.ob (by decide)) ?_
  refine aw_iconst (n := 1) (by decide +kernel) ?_
  refine ax_icmp_ne (off := 21) (tgt := 28) (x' := wr (g t 2)) (y' := 1) (by decide +kernel) (by decide) rfl (by decide +kernel) (fun hc => ?_) (fun hc => ?_)
  · have hF := hF.1 hc
    refine aw_aload_n (k' := 0) (by decide +kernel) rfl ?_
    refine gfX0_9 rfl (by decide +kernel) (OB.at ht.ob (by decide)) ?_
    refine aw_iconst (n := 2) (by decide +kernel) ?_
    refine ax_icmp_ne (off := 14) (tgt := 47) (x' := wr (g t 2)) (y' := 2) (by decide +kernel) (by decide) rfl (by decide +kernel) (fun hc => ?_) (fun hc => ?_)
    · have hF := hF.1 hc
      refine aw_aload_n (k' := 0) (by decide +kernel) rfl ?_
      refine gfX0_9 rfl (by decide +kernel) (OB.at ht.ob (by decide)) ?_
      refine aw_iconst (n := 3) (by decide +kernel) ?_
      refine ax_icmp_ne (off := 20) (tgt := 72) (x' := wr (g t 2)) (y' := 3) (by decide +kernel) (by decide) rfl (by decide +kernel) (fun hc => ?_) (fun hc => ?_)
      · have hF := hF.1 hc
        refine aw_aload_n (k' := 0) (by decide +kernel) rfl ?_
        refine gfX0_27 rfl (by decide +kernel) (OB.at ht.ob (by decide)) ?_
        refine aw_iconst (n := 1) (by decide +kernel) ?_
        refine ax_icmp_ne (off := 9) (tgt := 86) (x' := wr (g t 7)) (y' := 1) (by decide +kernel) (by decide) rfl (by decide +kernel) (fun hc => ?_) (fun hc => ?_)
        · have hF := hF.1 hc
          refine aw_iload_n (k' := 1) (by decide +kernel) rfl ?_
          exact aw_iret (by decide +kernel) rfl hF
        · have hF := hF.2 hc
          refine aw_iload_n (k' := 1) (by decide +kernel) rfl ?_
          refine aw_iconst (n := 2) (by decide +kernel) ?_
          refine aw_idiv (by decide +kernel) (by decide +kernel) ?_
          refine aw_goto (off := 4) (tgt := 87) (by decide +kernel) (by decide) ?_
          exact aw_iret (by decide +kernel) rfl hF
      · have hF := hF.2 hc
        refine aw_iconst (n := 0) (by decide +kernel) ?_
        refine aw_bipush (n := 9) (by decide +kernel) (by decide +kernel) ?_
        refine aw_iconst (n := 2) (by decide +kernel) ?_
        refine aw_aload_n (k' := 0) (by decide +kernel) rfl ?_
        refine gfX0_18 rfl (by decide +kernel) (OB.at ht.ob (by decide)) ?_
        refine aw_callS (y := yJ6_bitCount_0f7a4) (M2 := mJ6_bitCount_0f7a4) (as := [vI (g t 4)]) (S := [vI 2, vI 9, vI 0]) (d2 := d) (b2 := 0) (b3 := b) cwJ6_bitCount_0f7a4 mlX0_36 stJ6_bitCount_0f7a4 (by decide +kernel) rfl (Nat.le_refl _) (Nat.le_of_eq (Nat.zero_add _)) rfl rfl (by simp [oneSlot]) (Nat.le_of_ble_eq_true rfl) (c_bitCount ?_)
        show AW Γ l mX0_base (d + 1) b 66 [vR t, vI 0] [vI (iBC (g t 4)), vI 2, vI 9, vI 0] (stt g) K
        refine aw_imul (by decide +kernel) ?_
        refine aw_isub (by decide +kernel) ?_
        refine aw_mmax (by decide +kernel) mlX0_42 stJ9_max_7cf53 cwM_init cwM_max (by simp [oneSlot]) (Nat.le_of_ble_eq_true rfl) ?_
        refine aw_istore_n (k' := 1) (by decide +kernel) (by decide) ?_
        show AW Γ l mX0_base (d + 1) b 72 [vR t, vI (iMax 0 (9 - (2 * (iBC (g t 4)))))] [] (stt g) K
        refine aw_aload_n (k' := 0) (by decide +kernel) rfl ?_
        refine gfX0_27 rfl (by decide +kernel) (OB.at ht.ob (by decide)) ?_
        refine aw_iconst (n := 1) (by decide +kernel) ?_
        refine ax_icmp_ne (off := 9) (tgt := 86) (x' := wr (g t 7)) (y' := 1) (by decide +kernel) (by decide) rfl (by decide +kernel) (fun hc => ?_) (fun hc => ?_)
        · have hF := hF.1 hc
          refine aw_iload_n (k' := 1) (by decide +kernel) rfl ?_
          exact aw_iret (by decide +kernel) rfl hF
        · have hF := hF.2 hc
          refine aw_iload_n (k' := 1) (by decide +kernel) rfl ?_
          refine aw_iconst (n := 2) (by decide +kernel) ?_
          refine aw_idiv (by decide +kernel) (by decide +kernel) ?_
          refine aw_goto (off := 4) (tgt := 87) (by decide +kernel) (by decide) ?_
          exact aw_iret (by decide +kernel) rfl hF
    · have hF := hF.2 hc
      refine aw_bipush (n := 12) (by decide +kernel) (by decide +kernel) ?_
      refine aw_aload_n (k' := 0) (by decide +kernel) rfl ?_
      refine gfX0_21 rfl (by decide +kernel) (OB.at ht.ob (by decide)) ?_
      refine aw_isub (by decide +kernel) ?_
      refine aw_istore_n (k' := 1) (by decide +kernel) (by decide) ?_
      show AW Γ l mX0_base (d + 1) b 44 [vR t, vI (12 - (g t 5))] [] (stt g) K
      refine aw_goto (off := 28) (tgt := 72) (by decide +kernel) (by decide) ?_
      refine aw_aload_n (k' := 0) (by decide +kernel) rfl ?_
      refine gfX0_27 rfl (by decide +kernel) (OB.at ht.ob (by decide)) ?_
      refine aw_iconst (n := 1) (by decide +kernel) ?_
      refine ax_icmp_ne (off := 9) (tgt := 86) (x' := wr (g t 7)) (y' := 1) (by decide +kernel) (by decide) rfl (by decide +kernel) (fun hc => ?_) (fun hc => ?_)
      · have hF := hF.1 hc
        refine aw_iload_n (k' := 1) (by decide +kernel) rfl ?_
        exact aw_iret (by decide +kernel) rfl hF
      · have hF := hF.2 hc
        refine aw_iload_n (k' := 1) (by decide +kernel) rfl ?_
        refine aw_iconst (n := 2) (by decide +kernel) ?_
        refine aw_idiv (by decide +kernel) (by decide +kernel) ?_
        refine aw_goto (off := 4) (tgt := 87) (by decide +kernel) (by decide) ?_
        exact aw_iret (by decide +kernel) rfl hF
  · have hF := hF.2 hc
    refine aw_aload_n (k' := 0) (by decide +kernel) rfl ?_
    refine gfX0_15 rfl (by decide +kernel) (OB.at ht.ob (by decide)) ?_
    refine aw_iconst (n := 2) (by decide +kernel) ?_
    refine aw_aload_n (k' := 0) (by decide +kernel) rfl ?_
    refine gfX0_24 rfl (by decide +kernel) (OB.at ht.ob (by decide)) ?_
    refine aw_callS (y := yJ6_bitCount_0f7a4) (M2 := mJ6_bitCount_0f7a4) (as := [vI (g t 6)]) (S := [vI 2, vI (g t 3)]) (d2 := d) (b2 := 0) (b3 := b) cwJ6_bitCount_0f7a4 mlX0_36 stJ6_bitCount_0f7a4 (by decide +kernel) rfl (Nat.le_refl _) (Nat.le_of_eq (Nat.zero_add _)) rfl rfl (by simp [oneSlot]) (Nat.le_of_ble_eq_true rfl) (c_bitCount ?_)
    show AW Γ l mX0_base (d + 1) b 22 [vR t, vI 0] [vI (iBC (g t 6)), vI 2, vI (g t 3)] (stt g) K
    refine aw_imul (by decide +kernel) ?_
    refine aw_iadd (by decide +kernel) ?_
    refine aw_istore_n (k' := 1) (by decide +kernel) (by decide) ?_
    show AW Γ l mX0_base (d + 1) b 25 [vR t, vI ((g t 3) + (2 * (iBC (g t 6))))] [] (stt g) K
    refine aw_goto (off := 47) (tgt := 72) (by decide +kernel) (by decide) ?_
    refine aw_aload_n (k' := 0) (by decide +kernel) rfl ?_
    refine gfX0_27 rfl (by decide +kernel) (OB.at ht.ob (by decide)) ?_
    refine aw_iconst (n := 1) (by decide +kernel) ?_
    refine ax_icmp_ne (off := 9) (tgt := 86) (x' := wr (g t 7)) (y' := 1) (by decide +kernel) (by decide) rfl (by decide +kernel) (fun hc => ?_) (fun hc => ?_)
    · have hF := hF.1 hc
      refine aw_iload_n (k' := 1) (by decide +kernel) rfl ?_
      exact aw_iret (by decide +kernel) rfl hF
    · have hF := hF.2 hc
      refine aw_iload_n (k' := 1) (by decide +kernel) rfl ?_
      refine aw_iconst (n := 2) (by decide +kernel) ?_
      refine aw_idiv (by decide +kernel) (by decide +kernel) ?_
      refine aw_goto (off := 4) (tgt := 87) (by decide +kernel) (by decide) ?_
      exact aw_iret (by decide +kernel) rfl hF

set_option maxHeartbeats 1000000 in
theorem wpX2_copy {Γ : Cfg} {l : Launch} {d b : Nat} {g : GG} {K : Ou → HP → Prop} {t : Int} (ht : HI t) {t1 : Int} (ht1 : HI t1) (hF : (((0 : Int) ≤ 0 ∧ (0 : Int) ≤ 0 ∧ (0 : Int) ≤ ln (t + 1 + 0)) ∧ (0 : Int) + ln (t + 1 + 0) ≤ ln (t1 + 1 + 0) ∧ (0 : Int) + ln (t + 1 + 0) ≤ ln (t + 1 + 0)) ∧ (∀ g1 : GG, g1 = cpy g (t1 + 1 + 0) (t + 1 + 0) 0 0 (ln (t + 1 + 0)) → (((0 : Int) ≤ 0 ∧ (0 : Int) ≤ 0 ∧ (0 : Int) ≤ ln (t + 1 + 1)) ∧ (0 : Int) + ln (t + 1 + 1) ≤ ln (t1 + 1 + 1) ∧ (0 : Int) + ln (t + 1 + 1) ≤ ln (t + 1 + 1)) ∧ (∀ g2 : GG, g2 = cpy g1 (t1 + 1 + 1) (t + 1 + 1) 0 0 (ln (t + 1 + 1)) → (((0 : Int) ≤ 0 ∧ (0 : Int) ≤ 0 ∧ (0 : Int) ≤ ln (t + 1 + 2)) ∧ (0 : Int) + ln (t + 1 + 2) ≤ ln (t1 + 1 + 2) ∧ (0 : Int) + ln (t + 1 + 2) ≤ ln (t + 1 + 2)) ∧ (∀ g3 : GG, g3 = cpy g2 (t1 + 1 + 2) (t + 1 + 2) 0 0 (ln (t + 1 + 2)) → (((0 : Int) ≤ 0 ∧ (0 : Int) ≤ 0 ∧ (0 : Int) ≤ ln (t + 1 + 3)) ∧ (0 : Int) + ln (t + 1 + 3) ≤ ln (t1 + 1 + 3) ∧ (0 : Int) + ln (t + 1 + 3) ≤ ln (t + 1 + 3)) ∧ (∀ g4 : GG, g4 = cpy g3 (t1 + 1 + 3) (t + 1 + 3) 0 0 (ln (t + 1 + 3)) → (((0 : Int) ≤ 0 ∧ (0 : Int) ≤ 0 ∧ (0 : Int) ≤ ln (t + 1 + 4)) ∧ (0 : Int) + ln (t + 1 + 4) ≤ ln (t1 + 1 + 4) ∧ (0 : Int) + ln (t + 1 + 4) ≤ ln (t + 1 + 4)) ∧ (∀ g5 : GG, g5 = cpy g4 (t1 + 1 + 4) (t + 1 + 4) 0 0 (ln (t + 1 + 4)) → (((0 : Int) ≤ 0 ∧ (0 : Int) ≤ 0 ∧ (0 : Int) ≤ ln (t + 1 + 5)) ∧ (0 : Int) + ln (t + 1 + 5) ≤ ln (t1 + 1 + 5) ∧ (0 : Int) + ln (t + 1 + 5) ≤ ln (t + 1 + 5)) ∧ (∀ g6 : GG, g6 = cpy g5 (t1 + 1 + 5) (t + 1 + 5) 0 0 (ln (t + 1 + 5)) → (((0 : Int) ≤ 0 ∧ (0 : Int) ≤ 0 ∧ (0 : Int) ≤ ln (t + 1 + 6)) ∧ (0 : Int) + ln (t + 1 + 6) ≤ ln (t1 + 1 + 6) ∧ (0 : Int) + ln (t + 1 + 6) ≤ ln (t + 1 + 6)) ∧ (∀ g7 : GG, g7 = cpy g6 (t1 + 1 + 6) (t + 1 + 6) 0 0 (ln (t + 1 + 6)) → (((0 : Int) ≤ 0 ∧ (0 : Int) ≤ 0 ∧ (0 : Int) ≤ ln (t + 1 + 7)) ∧ (0 : Int) + ln (t + 1 + 7) ≤ ln (t1 + 1 + 7) ∧ (0 : Int) + ln (t + 1 + 7) ≤ ln (t + 1 + 7)) ∧ (∀ g8 : GG, g8 = cpy g7 (t1 + 1 + 7) (t + 1 + 7) 0 0 (ln (t + 1 + 7)) → (∀ g9 : GG, g9 = upd2 (upd2 g8 t 8 (g8 t1 8)) t 9 ((upd2 g8 t 8 (g8 t1 8)) t1 9) → (∀ g10 : GG, g10 = upd2 (upd2 g9 t 10 (g9 t1 10)) t 11 ((upd2 g9 t 10 (g9 t1 10)) t1 11) → (∀ g11 : GG, g11 = upd2 (upd2 g10 t 12 (g10 t1 12)) t 13 ((upd2 g10 t 12 (g10 t1 12)) t1 13) → K (.inl vU) (stt (upd2 g11 t 14 (g11 t1 14))))))))))))))) : Ct Γ l (d + 1) b yX2_copy mX2_copy [vR t, vR t1] (stt g) K := by
  refine Ct.enter (L := [vR t, vR t1]) rfl rfl rfl (by decide +kernel) (by simp [oneSlot]) (Nat.le_of_ble_eq_true rfl) rfl ?_
  refine aw_aload_n (k' := 1) (by decide +kernel) rfl ?_
  refine gfX2_9 rfl (by decide +kernel) (OB.at ht1.ob (by decide)) ?_
  refine AW.topR (ht1.r0) ?_
  refine aw_iconst (n := 0) (by decide +kernel) ?_
  refine aw_aload_n (k' := 0) (by decide +kernel) rfl ?_
  refine gfX2_9 rfl (by decide +kernel) (OB.at ht.ob (by decide)) ?_
  refine AW.topR (ht.r0) ?_
  refine aw_iconst (n := 0) (by decide +kernel) ?_
  refine aw_aload_n (k' := 0) (by decide +kernel) rfl ?_
  refine gfX2_9 rfl (by decide +kernel) (OB.at ht.ob (by decide)) ?_
  refine AW.topR (ht.r0) ?_
  refine aw_alen (by decide +kernel) (by decide) (IA.at (ht.a0)) ?_
  show AW Γ l mX2_copy (d + 1) b 15 [vR t, vR t1] [vI (ln (t + 1 + 0)), vI 0, vR (t + 1 + 0), vI 0, vR (t1 + 1 + 0)] (stt g) K
  refine aw_copy (sp' := 0) (dp' := 0) (n' := ln (t + 1 + 0)) (by decide +kernel) mlX2_58 cwSy_nat cwSy_st cwSy_init (IA.at (ht1.a0)) (IA.at (ht.a0)) (by decide +kernel) (by decide +kernel) (wr_ln _) hF.1 (by simp [oneSlot]) (Nat.le_of_ble_eq_true rfl) ?_
  replace hF := hF.2
  show AW Γ l mX2_copy (d + 1) b 18 [vR t, vR t1] [] (stt (cpy g (t1 + 1 + 0) (t + 1 + 0) 0 0 (ln (t + 1 + 0)))) K
  generalize eg1 : cpy g (t1 + 1 + 0) (t + 1 + 0) 0 0 (ln (t + 1 + 0)) = g1
  replace hF := hF g1 eg1.symm
  refine aw_aload_n (k' := 1) (by decide +kernel) rfl ?_
  refine gfX2_15 rfl (by decide +kernel) (OB.at ht1.ob (by decide)) ?_
  refine AW.topR (ht1.r1) ?_
  refine aw_iconst (n := 0) (by decide +kernel) ?_
  refine aw_aload_n (k' := 0) (by decide +kernel) rfl ?_
  refine gfX2_15 rfl (by decide +kernel) (OB.at ht.ob (by decide)) ?_
  refine AW.topR (ht.r1) ?_
  refine aw_iconst (n := 0) (by decide +kernel) ?_
  refine aw_aload_n (k' := 0) (by decide +kernel) rfl ?_
  refine gfX2_15 rfl (by decide +kernel) (OB.at ht.ob (by decide)) ?_
  refine AW.topR (ht.r1) ?_
  refine aw_alen (by decide +kernel) (by decide) (IA.at (ht.a1)) ?_
  show AW Γ l mX2_copy (d + 1) b 33 [vR t, vR t1] [vI (ln (t + 1 + 1)), vI 0, vR (t + 1 + 1), vI 0, vR (t1 + 1 + 1)] (stt g1) K
  refine aw_copy (sp' := 0) (dp' := 0) (n' := ln (t + 1 + 1)) (by decide +kernel) mlX2_58 cwSy_nat cwSy_st cwSy_init (IA.at (ht1.a1)) (IA.at (ht.a1)) (by decide +kernel) (by decide +kernel) (wr_ln _) hF.1 (by simp [oneSlot]) (Nat.le_of_ble_eq_true rfl) ?_
  replace hF := hF.2
  show AW Γ l mX2_copy (d + 1) b 36 [vR t, vR t1] [] (stt (cpy g1 (t1 + 1 + 1) (t + 1 + 1) 0 0 (ln (t + 1 + 1)))) K
  generalize eg2 : cpy g1 (t1 + 1 + 1) (t + 1 + 1) 0 0 (ln (t + 1 + 1)) = g2
  replace hF := hF g2 eg2.symm
  refine aw_aload_n (k' := 1) (by decide +kernel) rfl ?_
  refine gfX2_18 rfl (by decide +kernel) (OB.at ht1.ob (by decide)) ?_
  refine AW.topR (ht1.r2) ?_
  refine aw_iconst (n := 0) (by decide +kernel) ?_
  refine aw_aload_n (k' := 0) (by decide +kernel) rfl ?_
  refine gfX2_18 rfl (by decide +kernel) (OB.at ht.ob (by decide)) ?_
  refine AW.topR (ht.r2) ?_
  refine aw_iconst (n := 0) (by decide +kernel) ?_
  refine aw_aload_n (k' := 0) (by decide +kernel) rfl ?_
  refine gfX2_18 rfl (by decide +kernel) (OB.at ht.ob (by decide)) ?_
  refine AW.topR (ht.r2) ?_
  refine aw_alen (by decide +kernel) (by decide) (IA.at (ht.a2)) ?_
  show AW Γ l mX2_copy (d + 1) b 51 [vR t, vR t1] [vI (ln (t + 1 + 2)), vI 0, vR (t + 1 + 2), vI 0, vR (t1 + 1 + 2)] (stt g2) K
  refine aw_copy (sp' := 0) (dp' := 0) (n' := ln (t + 1 + 2)) (by decide +kernel) mlX2_58 cwSy_nat cwSy_st cwSy_init (IA.at (ht1.a2)) (IA.at (ht.a2)) (by decide +kernel) (by decide +kernel) (wr_ln _) hF.1 (by simp [oneSlot]) (Nat.le_of_ble_eq_true rfl) ?_
  replace hF := hF.2
  show AW Γ l mX2_copy (d + 1) b 54 [vR t, vR t1] [] (stt (cpy g2 (t1 + 1 + 2) (t + 1 + 2) 0 0 (ln (t + 1 + 2)))) K
  generalize eg3 : cpy g2 (t1 + 1 + 2) (t + 1 + 2) 0 0 (ln (t + 1 + 2)) = g3
  replace hF := hF g3 eg3.symm
  refine aw_aload_n (k' := 1) (by decide +kernel) rfl ?_
  refine gfX2_21 rfl (by decide +kernel) (OB.at ht1.ob (by decide)) ?_
  refine AW.topR (ht1.r3) ?_
  refine aw_iconst (n := 0) (by decide +kernel) ?_
  refine aw_aload_n (k' := 0) (by decide +kernel) rfl ?_
  refine gfX2_21 rfl (by decide +kernel) (OB.at ht.ob (by decide)) ?_
  refine AW.topR (ht.r3) ?_
  refine aw_iconst (n := 0) (by decide +kernel) ?_
  refine aw_aload_n (k' := 0) (by decide +kernel) rfl ?_
  refine gfX2_21 rfl (by decide +kernel) (OB.at ht.ob (by decide)) ?_
  refine AW.topR (ht.r3) ?_
  refine aw_alen (by decide +kernel) (by decide) (IA.at (ht.a3)) ?_
  show AW Γ l mX2_copy (d + 1) b 69 [vR t, vR t1] [vI (ln (t + 1 + 3)), vI 0, vR (t + 1 + 3), vI 0, vR (t1 + 1 + 3)] (stt g3) K
  refine aw_copy (sp' := 0) (dp' := 0) (n' := ln (t + 1 + 3)) (by decide +kernel) mlX2_58 cwSy_nat cwSy_st cwSy_init (IA.at (ht1.a3)) (IA.at (ht.a3)) (by decide +kernel) (by decide +kernel) (wr_ln _) hF.1 (by simp [oneSlot]) (Nat.le_of_ble_eq_true rfl) ?_
  replace hF := hF.2
  show AW Γ l mX2_copy (d + 1) b 72 [vR t, vR t1] [] (stt (cpy g3 (t1 + 1 + 3) (t + 1 + 3) 0 0 (ln (t + 1 + 3)))) K
  generalize eg4 : cpy g3 (t1 + 1 + 3) (t + 1 + 3) 0 0 (ln (t + 1 + 3)) = g4
  replace hF := hF g4 eg4.symm
  refine aw_aload_n (k' := 1) (by decide +kernel) rfl ?_
  refine gfX2_24 rfl (by decide +kernel) (OB.at ht1.ob (by decide)) ?_
  refine AW.topR (ht1.r4) ?_
  refine aw_iconst (n := 0) (by decide +kernel) ?_
  refine aw_aload_n (k' := 0) (by decide +kernel) rfl ?_
  refine gfX2_24 rfl (by decide +kernel) (OB.at ht.ob (by decide)) ?_
  refine AW.topR (ht.r4) ?_
  refine aw_iconst (n := 0) (by decide +kernel) ?_
  refine aw_aload_n (k' := 0) (by decide +kernel) rfl ?_
  refine gfX2_24 rfl (by decide +kernel) (OB.at ht.ob (by decide)) ?_
  refine AW.topR (ht.r4) ?_
  refine aw_alen (by decide +kernel) (by decide) (IA.at (ht.a4)) ?_
  show AW Γ l mX2_copy (d + 1) b 87 [vR t, vR t1] [vI (ln (t + 1 + 4)), vI 0, vR (t + 1 + 4), vI 0, vR (t1 + 1 + 4)] (stt g4) K
  refine aw_copy (sp' := 0) (dp' := 0) (n' := ln (t + 1 + 4)) (by decide +kernel) mlX2_58 cwSy_nat cwSy_st cwSy_init (IA.at (ht1.a4)) (IA.at (ht.a4)) (by decide +kernel) (by decide +kernel) (wr_ln _) hF.1 (by simp [oneSlot]) (Nat.le_of_ble_eq_true rfl) ?_
  replace hF := hF.2
  show AW Γ l mX2_copy (d + 1) b 90 [vR t, vR t1] [] (stt (cpy g4 (t1 + 1 + 4) (t + 1 + 4) 0 0 (ln (t + 1 + 4)))) K
  generalize eg5 : cpy g4 (t1 + 1 + 4) (t + 1 + 4) 0 0 (ln (t + 1 + 4)) = g5
  replace hF := hF g5 eg5.symm
  refine aw_aload_n (k' := 1) (by decide +kernel) rfl ?_
  refine gfX2_27 rfl (by decide +kernel) (OB.at ht1.ob (by decide)) ?_
  refine AW.topR (ht1.r5) ?_
  refine aw_iconst (n := 0) (by decide +kernel) ?_
  refine aw_aload_n (k' := 0) (by decide +kernel) rfl ?_
  refine gfX2_27 rfl (by decide +kernel) (OB.at ht.ob (by decide)) ?_
  refine AW.topR (ht.r5) ?_
  refine aw_iconst (n := 0) (by decide +kernel) ?_
  refine aw_aload_n (k' := 0) (by decide +kernel) rfl ?_
  refine gfX2_27 rfl (by decide +kernel) (OB.at ht.ob (by decide)) ?_
  refine AW.topR (ht.r5) ?_
  refine aw_alen (by decide +kernel) (by decide) (IA.at (ht.a5)) ?_
  show AW Γ l mX2_copy (d + 1) b 105 [vR t, vR t1] [vI (ln (t + 1 + 5)), vI 0, vR (t + 1 + 5), vI 0, vR (t1 + 1 + 5)] (stt g5) K
  refine aw_copy (sp' := 0) (dp' := 0) (n' := ln (t + 1 + 5)) (by decide +kernel) mlX2_58 cwSy_nat cwSy_st cwSy_init (IA.at (ht1.a5)) (IA.at (ht.a5)) (by decide +kernel) (by decide +kernel) (wr_ln _) hF.1 (by simp [oneSlot]) (Nat.le_of_ble_eq_true rfl) ?_
  replace hF := hF.2
  show AW Γ l mX2_copy (d + 1) b 108 [vR t, vR t1] [] (stt (cpy g5 (t1 + 1 + 5) (t + 1 + 5) 0 0 (ln (t + 1 + 5)))) K
  generalize eg6 : cpy g5 (t1 + 1 + 5) (t + 1 + 5) 0 0 (ln (t + 1 + 5)) = g6
  replace hF := hF g6 eg6.symm
  refine aw_aload_n (k' := 1) (by decide +kernel) rfl ?_
  refine gfX2_30 rfl (by decide +kernel) (OB.at ht1.ob (by decide)) ?_
  refine AW.topR (ht1.r6) ?_
  refine aw_iconst (n := 0) (by decide +kernel) ?_
  refine aw_aload_n (k' := 0) (by decide +kernel) rfl ?_
  refine gfX2_30 rfl (by decide +kernel) (OB.at ht.ob (by decide)) ?_
  refine AW.topR (ht.r6) ?_
  refine aw_iconst (n := 0) (by decide +kernel) ?_
  refine aw_aload_n (k' := 0) (by decide +kernel) rfl ?_
  refine gfX2_30 rfl (by decide +kernel) (OB.at ht.ob (by decide)) ?_
  refine AW.topR (ht.r6) ?_
  refine aw_alen (by decide +kernel) (by decide) (IA.at (ht.a6)) ?_
  show AW Γ l mX2_copy (d + 1) b 123 [vR t, vR t1] [vI (ln (t + 1 + 6)), vI 0, vR (t + 1 + 6), vI 0, vR (t1 + 1 + 6)] (stt g6) K
  refine aw_copy (sp' := 0) (dp' := 0) (n' := ln (t + 1 + 6)) (by decide +kernel) mlX2_58 cwSy_nat cwSy_st cwSy_init (IA.at (ht1.a6)) (IA.at (ht.a6)) (by decide +kernel) (by decide +kernel) (wr_ln _) hF.1 (by simp [oneSlot]) (Nat.le_of_ble_eq_true rfl) ?_
  replace hF := hF.2
  show AW Γ l mX2_copy (d + 1) b 126 [vR t, vR t1] [] (stt (cpy g6 (t1 + 1 + 6) (t + 1 + 6) 0 0 (ln (t + 1 + 6)))) K
  generalize eg7 : cpy g6 (t1 + 1 + 6) (t + 1 + 6) 0 0 (ln (t + 1 + 6)) = g7
  replace hF := hF g7 eg7.symm
  refine aw_aload_n (k' := 1) (by decide +kernel) rfl ?_
  refine gfX2_33 rfl (by decide +kernel) (OB.at ht1.ob (by decide)) ?_
  refine AW.topR (ht1.r7) ?_
  refine aw_iconst (n := 0) (by decide +kernel) ?_
  refine aw_aload_n (k' := 0) (by decide +kernel) rfl ?_
  refine gfX2_33 rfl (by decide +kernel) (OB.at ht.ob (by decide)) ?_
  refine AW.topR (ht.r7) ?_
  refine aw_iconst (n := 0) (by decide +kernel) ?_
  refine aw_aload_n (k' := 0) (by decide +kernel) rfl ?_
  refine gfX2_33 rfl (by decide +kernel) (OB.at ht.ob (by decide)) ?_
  refine AW.topR (ht.r7) ?_
  refine aw_alen (by decide +kernel) (by decide) (IA.at (ht.a7)) ?_
  show AW Γ l mX2_copy (d + 1) b 141 [vR t, vR t1] [vI (ln (t + 1 + 7)), vI 0, vR (t + 1 + 7), vI 0, vR (t1 + 1 + 7)] (stt g7) K
  refine aw_copy (sp' := 0) (dp' := 0) (n' := ln (t + 1 + 7)) (by decide +kernel) mlX2_58 cwSy_nat cwSy_st cwSy_init (IA.at (ht1.a7)) (IA.at (ht.a7)) (by decide +kernel) (by decide +kernel) (wr_ln _) hF.1 (by simp [oneSlot]) (Nat.le_of_ble_eq_true rfl) ?_
  replace hF := hF.2
  show AW Γ l mX2_copy (d + 1) b 144 [vR t, vR t1] [] (stt (cpy g7 (t1 + 1 + 7) (t + 1 + 7) 0 0 (ln (t + 1 + 7)))) K
  generalize eg8 : cpy g7 (t1 + 1 + 7) (t + 1 + 7) 0 0 (ln (t + 1 + 7)) = g8
  replace hF := hF g8 eg8.symm
  refine aw_aload_n (k' := 0) (by decide +kernel) rfl ?_
  refine aw_aload_n (k' := 1) (by decide +kernel) rfl ?_
  refine gfX2_36 rfl (by decide +kernel) (OB.at ht1.ob (by decide)) ?_
  refine pfX2_36 rfl (by decide +kernel) (OB.at ht.ob (by decide)) ?_
  show AW Γ l mX2_copy (d + 1) b 152 [vR t, vR t1] [] (stt (upd2 g8 t 8 (g8 t1 8))) K
  refine aw_aload_n (k' := 0) (by decide +kernel) rfl ?_
  refine aw_aload_n (k' := 1) (by decide +kernel) rfl ?_
  refine gfX2_40 rfl (by decide +kernel) (OB.at ht1.ob (by decide)) ?_
  refine pfX2_40 rfl (by decide +kernel) (OB.at ht.ob (by decide)) ?_
  show AW Γ l mX2_copy (d + 1) b 160 [vR t, vR t1] [] (stt (upd2 (upd2 g8 t 8 (g8 t1 8)) t 9 ((upd2 g8 t 8 (g8 t1 8)) t1 9))) K
  generalize eg9 : upd2 (upd2 g8 t 8 (g8 t1 8)) t 9 ((upd2 g8 t 8 (g8 t1 8)) t1 9) = g9
  replace hF := hF g9 eg9.symm
  refine aw_aload_n (k' := 0) (by decide +kernel) rfl ?_
  refine aw_aload_n (k' := 1) (by decide +kernel) rfl ?_
  refine gfX2_43 rfl (by decide +kernel) (OB.at ht1.ob (by decide)) ?_
  refine pfX2_43 rfl (by decide +kernel) (OB.at ht.ob (by decide)) ?_
  show AW Γ l mX2_copy (d + 1) b 168 [vR t, vR t1] [] (stt (upd2 g9 t 10 (g9 t1 10))) K
  refine aw_aload_n (k' := 0) (by decide +kernel) rfl ?_
  refine aw_aload_n (k' := 1) (by decide +kernel) rfl ?_
  refine gfX2_46 rfl (by decide +kernel) (OB.at ht1.ob (by decide)) ?_
  refine pfX2_46 rfl (by decide +kernel) (OB.at ht.ob (by decide)) ?_
  show AW Γ l mX2_copy (d + 1) b 176 [vR t, vR t1] [] (stt (upd2 (upd2 g9 t 10 (g9 t1 10)) t 11 ((upd2 g9 t 10 (g9 t1 10)) t1 11))) K
  generalize eg10 : upd2 (upd2 g9 t 10 (g9 t1 10)) t 11 ((upd2 g9 t 10 (g9 t1 10)) t1 11) = g10
  replace hF := hF g10 eg10.symm
  refine aw_aload_n (k' := 0) (by decide +kernel) rfl ?_
  refine aw_aload_n (k' := 1) (by decide +kernel) rfl ?_
  refine gfX2_49 rfl (by decide +kernel) (OB.at ht1.ob (by decide)) ?_
  refine pfX2_49 rfl (by decide +kernel) (OB.at ht.ob (by decide)) ?_
  show AW Γ l mX2_copy (d + 1) b 184 [vR t, vR t1] [] (stt (upd2 g10 t 12 (g10 t1 12))) K
  refine aw_aload_n (k' := 0) (by decide +kernel) rfl ?_
  refine aw_aload_n (k' := 1) (by decide +kernel) rfl ?_
  refine gfX2_52 rfl (by decide +kernel) (OB.at ht1.ob (by decide)) ?_
  refine pfX2_52 rfl (by decide +kernel) (OB.at ht.ob (by decide)) ?_
  show AW Γ l mX2_copy (d + 1) b 192 [vR t, vR t1] [] (stt (upd2 (upd2 g10 t 12 (g10 t1 12)) t 13 ((upd2 g10 t 12 (g10 t1 12)) t1 13))) K
  generalize eg11 : upd2 (upd2 g10 t 12 (g10 t1 12)) t 13 ((upd2 g10 t 12 (g10 t1 12)) t1 13) = g11
  replace hF := hF g11 eg11.symm
  refine aw_aload_n (k' := 0) (by decide +kernel) rfl ?_
  refine aw_aload_n (k' := 1) (by decide +kernel) rfl ?_
  refine gfX2_55 rfl (by decide +kernel) (OB.at ht1.ob (by decide)) ?_
  refine pfX2_55 rfl (by decide +kernel) (OB.at ht.ob (by decide)) ?_
  show AW Γ l mX2_copy (d + 1) b 200 [vR t, vR t1] [] (stt (upd2 g11 t 14 (g11 t1 14))) K
  exact aw_vret (by decide +kernel) rfl hF

set_option maxHeartbeats 1000000 in
theorem wpX2_kindAt {Γ : Cfg} {l : Launch} {d b : Nat} {g : GG} {K : Ou → HP → Prop} {t : Int} (ht : HI t) {x1 : Int} {x2 : Int} (hF : (wr (cel g (t + 1 + 1) x1) ≤ wr x2 → K (.inl (vI 10)) (stt g)) ∧ (¬ (wr (cel g (t + 1 + 1) x1) ≤ wr x2) → K (.inl (vI (iDiv (cel g (t + 1 + 0) (x1 * 12 + x2)) 10))) (stt g))) : Ct Γ l (d + 2) b yX2_kindAt mX2_kindAt [vR t, vI x1, vI x2] (stt g) K := by
  refine Ct.enter (L := [vR t, vI x1, vI x2]) rfl rfl rfl (by decide +kernel) (by simp [oneSlot]) (Nat.le_of_ble_eq_true rfl) rfl ?_
  refine aw_iload_n (k' := 2) (by decide +kernel) rfl ?_
  refine aw_aload_n (k' := 0) (by decide +kernel) rfl ?_
  refine gfX2_15 rfl (by decide +kernel) (OB.at ht.ob (by decide)) ?_
  refine AW.topR (ht.r1) ?_
  refine aw_iload_n (k' := 1) (by decide +kernel) rfl ?_
  refine aw_callSN (host := "HalfOaths") (y := yX11_cell) (M2 := mX11_cell) (as := [vR (t + 1 + 1), vI x1]) (S := [vI x2]) (d2 := (d + 1)) (b2 := 0) (b3 := b) cwX11_cell mlX2_64 stX11_cell (by decide +kernel) rfl (Nat.le_refl _) (Nat.le_of_eq (Nat.zero_add _)) rfl rfl (by simp [oneSlot]) (Nat.le_of_ble_eq_true rfl) (c_cell (ht.a1) ?_)
  show AW Γ l mX2_kindAt (d + 2) b 9 [vR t, vI x1, vI x2] [vI (cel g (t + 1 + 1) x1), vI x2] (stt g) K
  refine ax_icmp_ge (off := 15) (tgt := 24) (x' := wr x2) (y' := wr (cel g (t + 1 + 1) x1)) (by decide +kernel) (by decide) rfl rfl (fun hc => ?_) (fun hc => ?_)
  · have hF := hF.1 hc
    refine aw_bipush (n := 10) (by decide +kernel) (by decide +kernel) ?_
    exact aw_iret (by decide +kernel) rfl hF
  · have hF := hF.2 hc
    refine aw_aload_n (k' := 0) (by decide +kernel) rfl ?_
    refine aw_iload_n (k' := 1) (by decide +kernel) rfl ?_
    refine aw_iload_n (k' := 2) (by decide +kernel) rfl ?_
    refine aw_callV (y := yX2_wordAt) (M2 := mX2_wordAt) (as := [vI x1, vI x2]) (S := []) (t := t) (d2 := (d + 1)) (b2 := 0) (b3 := b) cwX2_wordAt mlX2_68 imX2_wordAt seX2_wordAt (by decide +kernel) rfl (ci := 2) rfl (OB.at ht.ob (by decide)) (Nat.le_refl _) (Nat.le_of_eq (Nat.zero_add _)) rfl rfl (by simp [oneSlot]) (Nat.le_of_ble_eq_true rfl) (c_wordAt ht ?_)
    show AW Γ l mX2_kindAt (d + 2) b 18 [vR t, vI x1, vI x2] [vI (cel g (t + 1 + 0) (x1 * 12 + x2))] (stt g) K
    refine aw_bipush (n := 10) (by decide +kernel) (by decide +kernel) ?_
    refine aw_idiv (by decide +kernel) (by decide +kernel) ?_
    refine aw_goto (off := 5) (tgt := 26) (by decide +kernel) (by decide) ?_
    exact aw_iret (by decide +kernel) rfl hF

set_option maxHeartbeats 1000000 in
theorem wpX2_alikeFirst {Γ : Cfg} {l : Launch} {d b : Nat} {g : GG} {K : Ou → HP → Prop} {t : Int} (ht : HI t) {x1 : Int} {x2 : Int} (hF : AW Γ l mX2_alikeFirst (d + 2) b 23 [vR t, vI x1, vI x2, vI (iMin (cel g (t + 1 + 1) x1) (cel g (t + 1 + 1) x2)), vI 0] [] (stt g) K) : Ct Γ l (d + 2) b yX2_alikeFirst mX2_alikeFirst [vR t, vI x1, vI x2] (stt g) K := by
  refine Ct.enter (L := [vR t, vI x1, vI x2, vU, vU]) rfl rfl rfl (by decide +kernel) (by simp [oneSlot]) (Nat.le_of_ble_eq_true rfl) rfl ?_
  refine aw_aload_n (k' := 0) (by decide +kernel) rfl ?_
  refine gfX2_15 rfl (by decide +kernel) (OB.at ht.ob (by decide)) ?_
  refine AW.topR (ht.r1) ?_
  refine aw_iload_n (k' := 1) (by decide +kernel) rfl ?_
  refine aw_callSN (host := "HalfOaths") (y := yX11_cell) (M2 := mX11_cell) (as := [vR (t + 1 + 1), vI x1]) (S := []) (d2 := (d + 1)) (b2 := 0) (b3 := b) cwX11_cell mlX2_64 stX11_cell (by decide +kernel) rfl (Nat.le_refl _) (Nat.le_of_eq (Nat.zero_add _)) rfl rfl (by simp [oneSlot]) (Nat.le_of_ble_eq_true rfl) (c_cell (ht.a1) ?_)
  show AW Γ l mX2_alikeFirst (d + 2) b 8 [vR t, vI x1, vI x2, vU, vU] [vI (cel g (t + 1 + 1) x1)] (stt g) K
  refine aw_aload_n (k' := 0) (by decide +kernel) rfl ?_
  refine gfX2_15 rfl (by decide +kernel) (OB.at ht.ob (by decide)) ?_
  refine AW.topR (ht.r1) ?_
  refine aw_iload_n (k' := 2) (by decide +kernel) rfl ?_
  refine aw_callSN (host := "HalfOaths") (y := yX11_cell) (M2 := mX11_cell) (as := [vR (t + 1 + 1), vI x2]) (S := [vI (cel g (t + 1 + 1) x1)]) (d2 := (d + 1)) (b2 := 0) (b3 := b) cwX11_cell mlX2_64 stX11_cell (by decide +kernel) rfl (Nat.le_refl _) (Nat.le_of_eq (Nat.zero_add _)) rfl rfl (by simp [oneSlot]) (Nat.le_of_ble_eq_true rfl) (c_cell (ht.a1) ?_)
  show AW Γ l mX2_alikeFirst (d + 2) b 16 [vR t, vI x1, vI x2, vU, vU] [vI (cel g (t + 1 + 1) x2), vI (cel g (t + 1 + 1) x1)] (stt g) K
  refine aw_mmin (by decide +kernel) mlX2_72 stJ9_min_7cf53 cwM_init cwM_min (by simp [oneSlot]) (Nat.le_of_ble_eq_true rfl) ?_
  refine aw_istore_n (k' := 3) (by decide +kernel) (by decide) ?_
  show AW Γ l mX2_alikeFirst (d + 2) b 20 [vR t, vI x1, vI x2, vI (iMin (cel g (t + 1 + 1) x1) (cel g (t + 1 + 1) x2)), vU] [] (stt g) K
  refine aw_iconst (n := 0) (by decide +kernel) ?_
  refine aw_istore (i := 4) (by decide +kernel) (by decide) ?_
  show AW Γ l mX2_alikeFirst (d + 2) b 23 [vR t, vI x1, vI x2, vI (iMin (cel g (t + 1 + 1) x1) (cel g (t + 1 + 1) x2)), vI 0] [] (stt g) K
  exact hF
set_option maxHeartbeats 1000000 in
theorem wpX2_alikeFirst_23 {Γ : Cfg} {l : Launch} {d b : Nat} {g : GG} {K : Ou → HP → Prop} {t : Int} (ht : HI t) {x1 : Int} {x2 : Int} {y3 : Int} {y4 : Int} (hF : (wr y3 ≤ wr y4 → K (.inl (vI y4)) (stt g)) ∧ (¬ (wr y3 ≤ wr y4) → (¬ wr (cel g (t + 1 + 0) (x1 * 12 + y4)) = wr (cel g (t + 1 + 0) (x2 * 12 + y4)) → K (.inl (vI y4)) (stt g)) ∧ (¬ (¬ wr (cel g (t + 1 + 0) (x1 * 12 + y4)) = wr (cel g (t + 1 + 0) (x2 * 12 + y4))) → AW Γ l mX2_alikeFirst (d + 2) b 23 [vR t, vI x1, vI x2, vI y3, vI (y4 + 1)] [] (stt g) K))) : AW Γ l mX2_alikeFirst (d + 2) b 23 [vR t, vI x1, vI x2, vI y3, vI y4] [] (stt g) K := by
  refine aw_iload (i := 4) (by decide +kernel) rfl ?_
  refine aw_iload_n (k' := 3) (by decide +kernel) rfl ?_
  refine ax_icmp_ge (off := 26) (tgt := 52) (x' := wr y4) (y' := wr y3) (by decide +kernel) (by decide) rfl rfl (fun hc => ?_) (fun hc => ?_)
  · have hF := hF.1 hc
    refine aw_iload (i := 4) (by decide +kernel) rfl ?_
    exact aw_iret (by decide +kernel) rfl hF
  · have hF := hF.2 hc
    refine aw_aload_n (k' := 0) (by decide +kernel) rfl ?_
    refine aw_iload_n (k' := 1) (by decide +kernel) rfl ?_
    refine aw_iload (i := 4) (by decide +kernel) rfl ?_
    refine aw_callV (y := yX2_wordAt) (M2 := mX2_wordAt) (as := [vI x1, vI y4]) (S := []) (t := t) (d2 := (d + 1)) (b2 := 0) (b3 := b) cwX2_wordAt mlX2_68 imX2_wordAt seX2_wordAt (by decide +kernel) rfl (ci := 2) rfl (OB.at ht.ob (by decide)) (Nat.le_refl _) (Nat.le_of_eq (Nat.zero_add _)) rfl rfl (by simp [oneSlot]) (Nat.le_of_ble_eq_true rfl) (c_wordAt ht ?_)
    show AW Γ l mX2_alikeFirst (d + 2) b 36 [vR t, vI x1, vI x2, vI y3, vI y4] [vI (cel g (t + 1 + 0) (x1 * 12 + y4))] (stt g) K
    refine aw_aload_n (k' := 0) (by decide +kernel) rfl ?_
    refine aw_iload_n (k' := 2) (by decide +kernel) rfl ?_
    refine aw_iload (i := 4) (by decide +kernel) rfl ?_
    refine aw_callV (y := yX2_wordAt) (M2 := mX2_wordAt) (as := [vI x2, vI y4]) (S := [vI (cel g (t + 1 + 0) (x1 * 12 + y4))]) (t := t) (d2 := (d + 1)) (b2 := 0) (b3 := b) cwX2_wordAt mlX2_68 imX2_wordAt seX2_wordAt (by decide +kernel) rfl (ci := 2) rfl (OB.at ht.ob (by decide)) (Nat.le_refl _) (Nat.le_of_eq (Nat.zero_add _)) rfl rfl (by simp [oneSlot]) (Nat.le_of_ble_eq_true rfl) (c_wordAt ht ?_)
    show AW Γ l mX2_alikeFirst (d + 2) b 43 [vR t, vI x1, vI x2, vI y3, vI y4] [vI (cel g (t + 1 + 0) (x2 * 12 + y4)), vI (cel g (t + 1 + 0) (x1 * 12 + y4))] (stt g) K
    refine ax_icmp_ne (off := 9) (tgt := 52) (x' := wr (cel g (t + 1 + 0) (x1 * 12 + y4))) (y' := wr (cel g (t + 1 + 0) (x2 * 12 + y4))) (by decide +kernel) (by decide) rfl rfl (fun hc => ?_) (fun hc => ?_)
    · have hF := hF.1 hc
      refine aw_iload (i := 4) (by decide +kernel) rfl ?_
      exact aw_iret (by decide +kernel) rfl hF
    · have hF := hF.2 hc
      refine aw_iinc (i := 4) (n := 1) (by decide +kernel) rfl (by decide) ?_
      show AW Γ l mX2_alikeFirst (d + 2) b 49 [vR t, vI x1, vI x2, vI y3, vI (y4 + 1)] [] (stt g) K
      refine aw_goto (off := -26) (tgt := 23) (by decide +kernel) (by decide) ?_
      exact hF

set_option maxHeartbeats 1000000 in
theorem wpX2_alikeInAll {Γ : Cfg} {l : Launch} {d b : Nat} {g : GG} {K : Ou → HP → Prop} {t : Int} (ht : HI t) {x1 : Int} {x2 : Int} (hF : AW Γ l mX2_alikeInAll (d + 2) b 26 [vR t, vI x1, vI x2, vI (iMin (cel g (t + 1 + 1) x1) (cel g (t + 1 + 1) x2)), vI 0, vI 0] [] (stt g) K) : Ct Γ l (d + 2) b yX2_alikeInAll mX2_alikeInAll [vR t, vI x1, vI x2] (stt g) K := by
  refine Ct.enter (L := [vR t, vI x1, vI x2, vU, vU, vU]) rfl rfl rfl (by decide +kernel) (by simp [oneSlot]) (Nat.le_of_ble_eq_true rfl) rfl ?_
  refine aw_aload_n (k' := 0) (by decide +kernel) rfl ?_
  refine gfX2_15 rfl (by decide +kernel) (OB.at ht.ob (by decide)) ?_
  refine AW.topR (ht.r1) ?_
  refine aw_iload_n (k' := 1) (by decide +kernel) rfl ?_
  refine aw_callSN (host := "HalfOaths") (y := yX11_cell) (M2 := mX11_cell) (as := [vR (t + 1 + 1), vI x1]) (S := []) (d2 := (d + 1)) (b2 := 0) (b3 := b) cwX11_cell mlX2_64 stX11_cell (by decide +kernel) rfl (Nat.le_refl _) (Nat.le_of_eq (Nat.zero_add _)) rfl rfl (by simp [oneSlot]) (Nat.le_of_ble_eq_true rfl) (c_cell (ht.a1) ?_)
  show AW Γ l mX2_alikeInAll (d + 2) b 8 [vR t, vI x1, vI x2, vU, vU, vU] [vI (cel g (t + 1 + 1) x1)] (stt g) K
  refine aw_aload_n (k' := 0) (by decide +kernel) rfl ?_
  refine gfX2_15 rfl (by decide +kernel) (OB.at ht.ob (by decide)) ?_
  refine AW.topR (ht.r1) ?_
  refine aw_iload_n (k' := 2) (by decide +kernel) rfl ?_
  refine aw_callSN (host := "HalfOaths") (y := yX11_cell) (M2 := mX11_cell) (as := [vR (t + 1 + 1), vI x2]) (S := [vI (cel g (t + 1 + 1) x1)]) (d2 := (d + 1)) (b2 := 0) (b3 := b) cwX11_cell mlX2_64 stX11_cell (by decide +kernel) rfl (Nat.le_refl _) (Nat.le_of_eq (Nat.zero_add _)) rfl rfl (by simp [oneSlot]) (Nat.le_of_ble_eq_true rfl) (c_cell (ht.a1) ?_)
  show AW Γ l mX2_alikeInAll (d + 2) b 16 [vR t, vI x1, vI x2, vU, vU, vU] [vI (cel g (t + 1 + 1) x2), vI (cel g (t + 1 + 1) x1)] (stt g) K
  refine aw_mmin (by decide +kernel) mlX2_72 stJ9_min_7cf53 cwM_init cwM_min (by simp [oneSlot]) (Nat.le_of_ble_eq_true rfl) ?_
  refine aw_istore_n (k' := 3) (by decide +kernel) (by decide) ?_
  show AW Γ l mX2_alikeInAll (d + 2) b 20 [vR t, vI x1, vI x2, vI (iMin (cel g (t + 1 + 1) x1) (cel g (t + 1 + 1) x2)), vU, vU] [] (stt g) K
  refine aw_iconst (n := 0) (by decide +kernel) ?_
  refine aw_istore (i := 4) (by decide +kernel) (by decide) ?_
  show AW Γ l mX2_alikeInAll (d + 2) b 23 [vR t, vI x1, vI x2, vI (iMin (cel g (t + 1 + 1) x1) (cel g (t + 1 + 1) x2)), vI 0, vU] [] (stt g) K
  refine aw_iconst (n := 0) (by decide +kernel) ?_
  refine aw_istore (i := 5) (by decide +kernel) (by decide) ?_
  show AW Γ l mX2_alikeInAll (d + 2) b 26 [vR t, vI x1, vI x2, vI (iMin (cel g (t + 1 + 1) x1) (cel g (t + 1 + 1) x2)), vI 0, vI 0] [] (stt g) K
  exact hF
set_option maxHeartbeats 1000000 in
theorem wpX2_alikeInAll_26 {Γ : Cfg} {l : Launch} {d b : Nat} {g : GG} {K : Ou → HP → Prop} {t : Int} (ht : HI t) {x1 : Int} {x2 : Int} {y3 : Int} {y4 : Int} {y5 : Int} (hF : (wr y3 ≤ wr y5 → K (.inl (vI y4)) (stt g)) ∧ (¬ (wr y3 ≤ wr y5) → (¬ wr (cel g (t + 1 + 0) (x1 * 12 + y5)) = wr (cel g (t + 1 + 0) (x2 * 12 + y5)) → AW Γ l mX2_alikeInAll (d + 2) b 26 [vR t, vI x1, vI x2, vI y3, vI y4, vI (y5 + 1)] [] (stt g) K) ∧ (¬ (¬ wr (cel g (t + 1 + 0) (x1 * 12 + y5)) = wr (cel g (t + 1 + 0) (x2 * 12 + y5))) → AW Γ l mX2_alikeInAll (d + 2) b 26 [vR t, vI x1, vI x2, vI y3, vI (y4 + 1), vI (y5 + 1)] [] (stt g) K))) : AW Γ l mX2_alikeInAll (d + 2) b 26 [vR t, vI x1, vI x2, vI y3, vI y4, vI y5] [] (stt g) K := by
  refine aw_iload (i := 5) (by decide +kernel) rfl ?_
  refine aw_iload_n (k' := 3) (by decide +kernel) rfl ?_
  refine ax_icmp_ge (off := 29) (tgt := 58) (x' := wr y5) (y' := wr y3) (by decide +kernel) (by decide) rfl rfl (fun hc => ?_) (fun hc => ?_)
  · have hF := hF.1 hc
    refine aw_iload (i := 4) (by decide +kernel) rfl ?_
    exact aw_iret (by decide +kernel) rfl hF
  · have hF := hF.2 hc
    refine aw_aload_n (k' := 0) (by decide +kernel) rfl ?_
    refine aw_iload_n (k' := 1) (by decide +kernel) rfl ?_
    refine aw_iload (i := 5) (by decide +kernel) rfl ?_
    refine aw_callV (y := yX2_wordAt) (M2 := mX2_wordAt) (as := [vI x1, vI y5]) (S := []) (t := t) (d2 := (d + 1)) (b2 := 0) (b3 := b) cwX2_wordAt mlX2_68 imX2_wordAt seX2_wordAt (by decide +kernel) rfl (ci := 2) rfl (OB.at ht.ob (by decide)) (Nat.le_refl _) (Nat.le_of_eq (Nat.zero_add _)) rfl rfl (by simp [oneSlot]) (Nat.le_of_ble_eq_true rfl) (c_wordAt ht ?_)
    show AW Γ l mX2_alikeInAll (d + 2) b 39 [vR t, vI x1, vI x2, vI y3, vI y4, vI y5] [vI (cel g (t + 1 + 0) (x1 * 12 + y5))] (stt g) K
    refine aw_aload_n (k' := 0) (by decide +kernel) rfl ?_
    refine aw_iload_n (k' := 2) (by decide +kernel) rfl ?_
    refine aw_iload (i := 5) (by decide +kernel) rfl ?_
    refine aw_callV (y := yX2_wordAt) (M2 := mX2_wordAt) (as := [vI x2, vI y5]) (S := [vI (cel g (t + 1 + 0) (x1 * 12 + y5))]) (t := t) (d2 := (d + 1)) (b2 := 0) (b3 := b) cwX2_wordAt mlX2_68 imX2_wordAt seX2_wordAt (by decide +kernel) rfl (ci := 2) rfl (OB.at ht.ob (by decide)) (Nat.le_refl _) (Nat.le_of_eq (Nat.zero_add _)) rfl rfl (by simp [oneSlot]) (Nat.le_of_ble_eq_true rfl) (c_wordAt ht ?_)
    show AW Γ l mX2_alikeInAll (d + 2) b 46 [vR t, vI x1, vI x2, vI y3, vI y4, vI y5] [vI (cel g (t + 1 + 0) (x2 * 12 + y5)), vI (cel g (t + 1 + 0) (x1 * 12 + y5))] (stt g) K
    refine ax_icmp_ne (off := 6) (tgt := 52) (x' := wr (cel g (t + 1 + 0) (x1 * 12 + y5))) (y' := wr (cel g (t + 1 + 0) (x2 * 12 + y5))) (by decide +kernel) (by decide) rfl rfl (fun hc => ?_) (fun hc => ?_)
    · have hF := hF.1 hc
      refine aw_iinc (i := 5) (n := 1) (by decide +kernel) rfl (by decide) ?_
      show AW Γ l mX2_alikeInAll (d + 2) b 55 [vR t, vI x1, vI x2, vI y3, vI y4, vI (y5 + 1)] [] (stt g) K
      refine aw_goto (off := -29) (tgt := 26) (by decide +kernel) (by decide) ?_
      exact hF
    · have hF := hF.2 hc
      refine aw_iinc (i := 4) (n := 1) (by decide +kernel) rfl (by decide) ?_
      show AW Γ l mX2_alikeInAll (d + 2) b 52 [vR t, vI x1, vI x2, vI y3, vI (y4 + 1), vI y5] [] (stt g) K
      refine aw_iinc (i := 5) (n := 1) (by decide +kernel) rfl (by decide) ?_
      show AW Γ l mX2_alikeInAll (d + 2) b 55 [vR t, vI x1, vI x2, vI y3, vI (y4 + 1), vI (y5 + 1)] [] (stt g) K
      refine aw_goto (off := -29) (tgt := 26) (by decide +kernel) (by decide) ?_
      exact hF

set_option maxHeartbeats 1000000 in
theorem wpX2_copyOath {Γ : Cfg} {l : Launch} {d b : Nat} {g : GG} {K : Ou → HP → Prop} {t : Int} (ht : HI t) {x1 : Int} {x2 : Int} (hF : AW Γ l mX2_copyOath (d + 2) b 2 [vR t, vI x1, vI x2, vI 0] [] (stt g) K) : Ct Γ l (d + 2) b yX2_copyOath mX2_copyOath [vR t, vI x1, vI x2] (stt g) K := by
  refine Ct.enter (L := [vR t, vI x1, vI x2, vU]) rfl rfl rfl (by decide +kernel) (by simp [oneSlot]) (Nat.le_of_ble_eq_true rfl) rfl ?_
  refine aw_iconst (n := 0) (by decide +kernel) ?_
  refine aw_istore_n (k' := 3) (by decide +kernel) (by decide) ?_
  show AW Γ l mX2_copyOath (d + 2) b 2 [vR t, vI x1, vI x2, vI 0] [] (stt g) K
  exact hF
set_option maxHeartbeats 1000000 in
theorem wpX2_copyOath_2 {Γ : Cfg} {l : Launch} {d b : Nat} {g : GG} {K : Ou → HP → Prop} {t : Int} (ht : HI t) {x1 : Int} {x2 : Int} {y3 : Int} (hF : (12 ≤ wr y3 → (∀ g1 : GG, g1 = puc g (t + 1 + 1) x1 (cel g (t + 1 + 1) x2) → K (.inl vU) (stt g1))) ∧ (¬ (12 ≤ wr y3) → (∀ g2 : GG, g2 = puc g (t + 1 + 0) ((x1 * 12) + y3) (cel g (t + 1 + 0) (x2 * 12 + y3)) → AW Γ l mX2_copyOath (d + 2) b 2 [vR t, vI x1, vI x2, vI (y3 + 1)] [] (stt g2) K))) : AW Γ l mX2_copyOath (d + 2) b 2 [vR t, vI x1, vI x2, vI y3] [] (stt g) K := by
  refine aw_iload_n (k' := 3) (by decide +kernel) rfl ?_
  refine aw_bipush (n := 12) (by decide +kernel) (by decide +kernel) ?_
  refine ax_icmp_ge (off := 28) (tgt := 33) (x' := wr y3) (y' := 12) (by decide +kernel) (by decide) rfl (by decide +kernel) (fun hc => ?_) (fun hc => ?_)
  · have hF := hF.1 hc
    refine aw_aload_n (k' := 0) (by decide +kernel) rfl ?_
    refine gfX2_15 rfl (by decide +kernel) (OB.at ht.ob (by decide)) ?_
    refine AW.topR (ht.r1) ?_
    refine aw_iload_n (k' := 1) (by decide +kernel) rfl ?_
    refine aw_aload_n (k' := 0) (by decide +kernel) rfl ?_
    refine gfX2_15 rfl (by decide +kernel) (OB.at ht.ob (by decide)) ?_
    refine AW.topR (ht.r1) ?_
    refine aw_iload_n (k' := 2) (by decide +kernel) rfl ?_
    refine aw_callSN (host := "HalfOaths") (y := yX11_cell) (M2 := mX11_cell) (as := [vR (t + 1 + 1), vI x2]) (S := [vI x1, vR (t + 1 + 1)]) (d2 := (d + 1)) (b2 := 0) (b3 := b) cwX11_cell mlX2_64 stX11_cell (by decide +kernel) rfl (Nat.le_refl _) (Nat.le_of_eq (Nat.zero_add _)) rfl rfl (by simp [oneSlot]) (Nat.le_of_ble_eq_true rfl) (c_cell (ht.a1) ?_)
    show AW Γ l mX2_copyOath (d + 2) b 46 [vR t, vI x1, vI x2, vI y3] [vI (cel g (t + 1 + 1) x2), vI x1, vR (t + 1 + 1)] (stt g) K
    refine aw_callSN (host := "HalfOaths") (y := yX11_put) (M2 := mX11_put) (as := [vR (t + 1 + 1), vI x1, vI (cel g (t + 1 + 1) x2)]) (S := []) (d2 := (d + 1)) (b2 := 0) (b3 := b) cwX11_put mlX2_77 stX11_put (by decide +kernel) rfl (Nat.le_refl _) (Nat.le_of_eq (Nat.zero_add _)) rfl rfl (by simp [oneSlot]) (Nat.le_of_ble_eq_true rfl) (c_put (ht.a1) ?_)
    show AW Γ l mX2_copyOath (d + 2) b 49 [vR t, vI x1, vI x2, vI y3] [] (stt (puc g (t + 1 + 1) x1 (cel g (t + 1 + 1) x2))) K
    show AW Γ l mX2_copyOath (d + 2) b 49 [vR t, vI x1, vI x2, vI y3] [] (stt (puc g (t + 1 + 1) x1 (cel g (t + 1 + 1) x2))) K
    generalize eg1 : puc g (t + 1 + 1) x1 (cel g (t + 1 + 1) x2) = g1
    replace hF := hF g1 eg1.symm
    exact aw_vret (by decide +kernel) rfl hF
  · have hF := hF.2 hc
    refine aw_aload_n (k' := 0) (by decide +kernel) rfl ?_
    refine gfX2_9 rfl (by decide +kernel) (OB.at ht.ob (by decide)) ?_
    refine AW.topR (ht.r0) ?_
    refine aw_iload_n (k' := 1) (by decide +kernel) rfl ?_
    refine aw_bipush (n := 12) (by decide +kernel) (by decide +kernel) ?_
    refine aw_imul (by decide +kernel) ?_
    refine aw_iload_n (k' := 3) (by decide +kernel) rfl ?_
    refine aw_iadd (by decide +kernel) ?_
    refine aw_aload_n (k' := 0) (by decide +kernel) rfl ?_
    refine aw_iload_n (k' := 2) (by decide +kernel) rfl ?_
    refine aw_iload_n (k' := 3) (by decide +kernel) rfl ?_
    refine aw_callV (y := yX2_wordAt) (M2 := mX2_wordAt) (as := [vI x2, vI y3]) (S := [vI ((x1 * 12) + y3), vR (t + 1 + 0)]) (t := t) (d2 := (d + 1)) (b2 := 0) (b3 := b) cwX2_wordAt mlX2_68 imX2_wordAt seX2_wordAt (by decide +kernel) rfl (ci := 2) rfl (OB.at ht.ob (by decide)) (Nat.le_refl _) (Nat.le_of_eq (Nat.zero_add _)) rfl rfl (by simp [oneSlot]) (Nat.le_of_ble_eq_true rfl) (c_wordAt ht ?_)
    show AW Γ l mX2_copyOath (d + 2) b 24 [vR t, vI x1, vI x2, vI y3] [vI (cel g (t + 1 + 0) (x2 * 12 + y3)), vI ((x1 * 12) + y3), vR (t + 1 + 0)] (stt g) K
    refine aw_callSN (host := "HalfOaths") (y := yX11_put) (M2 := mX11_put) (as := [vR (t + 1 + 0), vI ((x1 * 12) + y3), vI (cel g (t + 1 + 0) (x2 * 12 + y3))]) (S := []) (d2 := (d + 1)) (b2 := 0) (b3 := b) cwX11_put mlX2_77 stX11_put (by decide +kernel) rfl (Nat.le_refl _) (Nat.le_of_eq (Nat.zero_add _)) rfl rfl (by simp [oneSlot]) (Nat.le_of_ble_eq_true rfl) (c_put (ht.a0) ?_)
    show AW Γ l mX2_copyOath (d + 2) b 27 [vR t, vI x1, vI x2, vI y3] [] (stt (puc g (t + 1 + 0) ((x1 * 12) + y3) (cel g (t + 1 + 0) (x2 * 12 + y3)))) K
    show AW Γ l mX2_copyOath (d + 2) b 27 [vR t, vI x1, vI x2, vI y3] [] (stt (puc g (t + 1 + 0) ((x1 * 12) + y3) (cel g (t + 1 + 0) (x2 * 12 + y3)))) K
    generalize eg2 : puc g (t + 1 + 0) ((x1 * 12) + y3) (cel g (t + 1 + 0) (x2 * 12 + y3)) = g2
    replace hF := hF g2 eg2.symm
    refine aw_iinc (i := 3) (n := 1) (by decide +kernel) rfl (by decide) ?_
    show AW Γ l mX2_copyOath (d + 2) b 30 [vR t, vI x1, vI x2, vI (y3 + 1)] [] (stt g2) K
    refine aw_goto (off := -28) (tgt := 2) (by decide +kernel) (by decide) ?_
    exact hF

set_option maxHeartbeats 1000000 in
theorem wpX2_hoursNeed {Γ : Cfg} {l : Launch} {d b : Nat} {g : GG} {K : Ou → HP → Prop} {t : Int} (ht : HI t) {x1 : Int} (hF : wr (iMax 1 (cel g (t + 1 + 2) x1)) ≠ 0 ∧ (K (.inl (vI (iDiv (((cel g (t + 1 + 1) x1) + (iMax 1 (cel g (t + 1 + 2) x1))) - 1) (iMax 1 (cel g (t + 1 + 2) x1))))) (stt g))) : Ct Γ l (d + 1) b yX2_hoursNeed mX2_hoursNeed [vR t, vI x1] (stt g) K := by
  refine Ct.enter (L := [vR t, vI x1, vU]) rfl rfl rfl (by decide +kernel) (by simp [oneSlot]) (Nat.le_of_ble_eq_true rfl) rfl ?_
  refine aw_iconst (n := 1) (by decide +kernel) ?_
  refine aw_aload_n (k' := 0) (by decide +kernel) rfl ?_
  refine gfX2_18 rfl (by decide +kernel) (OB.at ht.ob (by decide)) ?_
  refine AW.topR (ht.r2) ?_
  refine aw_iload_n (k' := 1) (by decide +kernel) rfl ?_
  refine aw_callSN (host := "HalfOaths") (y := yX11_cell) (M2 := mX11_cell) (as := [vR (t + 1 + 2), vI x1]) (S := [vI 1]) (d2 := d) (b2 := 0) (b3 := b) cwX11_cell mlX2_64 stX11_cell (by decide +kernel) rfl (Nat.le_refl _) (Nat.le_of_eq (Nat.zero_add _)) rfl rfl (by simp [oneSlot]) (Nat.le_of_ble_eq_true rfl) (c_cell (ht.a2) ?_)
  show AW Γ l mX2_hoursNeed (d + 1) b 9 [vR t, vI x1, vU] [vI (cel g (t + 1 + 2) x1), vI 1] (stt g) K
  refine aw_mmax (by decide +kernel) mlX2_81 stJ9_max_7cf53 cwM_init cwM_max (by simp [oneSlot]) (Nat.le_of_ble_eq_true rfl) ?_
  refine aw_istore_n (k' := 2) (by decide +kernel) (by decide) ?_
  show AW Γ l mX2_hoursNeed (d + 1) b 13 [vR t, vI x1, vI (iMax 1 (cel g (t + 1 + 2) x1))] [] (stt g) K
  refine aw_aload_n (k' := 0) (by decide +kernel) rfl ?_
  refine gfX2_15 rfl (by decide +kernel) (OB.at ht.ob (by decide)) ?_
  refine AW.topR (ht.r1) ?_
  refine aw_iload_n (k' := 1) (by decide +kernel) rfl ?_
  refine aw_callSN (host := "HalfOaths") (y := yX11_cell) (M2 := mX11_cell) (as := [vR (t + 1 + 1), vI x1]) (S := []) (d2 := d) (b2 := 0) (b3 := b) cwX11_cell mlX2_64 stX11_cell (by decide +kernel) rfl (Nat.le_refl _) (Nat.le_of_eq (Nat.zero_add _)) rfl rfl (by simp [oneSlot]) (Nat.le_of_ble_eq_true rfl) (c_cell (ht.a1) ?_)
  show AW Γ l mX2_hoursNeed (d + 1) b 21 [vR t, vI x1, vI (iMax 1 (cel g (t + 1 + 2) x1))] [vI (cel g (t + 1 + 1) x1)] (stt g) K
  refine aw_iload_n (k' := 2) (by decide +kernel) rfl ?_
  refine aw_iadd (by decide +kernel) ?_
  refine aw_iconst (n := 1) (by decide +kernel) ?_
  refine aw_isub (by decide +kernel) ?_
  refine aw_iload_n (k' := 2) (by decide +kernel) rfl ?_
  refine aw_idiv (by decide +kernel) hF.1 ?_
  replace hF := hF.2
  exact aw_iret (by decide +kernel) rfl hF

set_option maxHeartbeats 1000000 in
theorem wpX2_heldCount {Γ : Cfg} {l : Launch} {d b : Nat} {g : GG} {K : Ou → HP → Prop} {t : Int} (ht : HI t) {x1 : Int} (hF : (¬ wr (cel g (t + 1 + 4) x1) = 2 → K (.inl (vI 0)) (stt g)) ∧ (¬ (¬ wr (cel g (t + 1 + 4) x1) = 2) → K (.inl (vI (cel g (t + 1 + 5) x1))) (stt g))) : Ct Γ l (d + 1) b yX2_heldCount mX2_heldCount [vR t, vI x1] (stt g) K := by
  refine Ct.enter (L := [vR t, vI x1]) rfl rfl rfl (by decide +kernel) (by simp [oneSlot]) (Nat.le_of_ble_eq_true rfl) rfl ?_
  refine aw_aload_n (k' := 0) (by decide +kernel) rfl ?_
  refine gfX2_24 rfl (by decide +kernel) (OB.at ht.ob (by decide)) ?_
  refine AW.topR (ht.r4) ?_
  refine aw_iload_n (k' := 1) (by decide +kernel) rfl ?_
  refine aw_callSN (host := "HalfOaths") (y := yX11_cell) (M2 := mX11_cell) (as := [vR (t + 1 + 4), vI x1]) (S := []) (d2 := d) (b2 := 0) (b3 := b) cwX11_cell mlX2_64 stX11_cell (by decide +kernel) rfl (Nat.le_refl _) (Nat.le_of_eq (Nat.zero_add _)) rfl rfl (by simp [oneSlot]) (Nat.le_of_ble_eq_true rfl) (c_cell (ht.a4) ?_)
  show AW Γ l mX2_heldCount (d + 1) b 8 [vR t, vI x1] [vI (cel g (t + 1 + 4) x1)] (stt g) K
  refine aw_iconst (n := 2) (by decide +kernel) ?_
  refine ax_icmp_ne (off := 14) (tgt := 23) (x' := wr (cel g (t + 1 + 4) x1)) (y' := 2) (by decide +kernel) (by decide) rfl (by decide +kernel) (fun hc => ?_) (fun hc => ?_)
  · have hF := hF.1 hc
    refine aw_iconst (n := 0) (by decide +kernel) ?_
    exact aw_iret (by decide +kernel) rfl hF
  · have hF := hF.2 hc
    refine aw_aload_n (k' := 0) (by decide +kernel) rfl ?_
    refine gfX2_27 rfl (by decide +kernel) (OB.at ht.ob (by decide)) ?_
    refine AW.topR (ht.r5) ?_
    refine aw_iload_n (k' := 1) (by decide +kernel) rfl ?_
    refine aw_callSN (host := "HalfOaths") (y := yX11_cell) (M2 := mX11_cell) (as := [vR (t + 1 + 5), vI x1]) (S := []) (d2 := d) (b2 := 0) (b3 := b) cwX11_cell mlX2_64 stX11_cell (by decide +kernel) rfl (Nat.le_refl _) (Nat.le_of_eq (Nat.zero_add _)) rfl rfl (by simp [oneSlot]) (Nat.le_of_ble_eq_true rfl) (c_cell (ht.a5) ?_)
    show AW Γ l mX2_heldCount (d + 1) b 20 [vR t, vI x1] [vI (cel g (t + 1 + 5) x1)] (stt g) K
    refine aw_goto (off := 4) (tgt := 24) (by decide +kernel) (by decide) ?_
    exact aw_iret (by decide +kernel) rfl hF

set_option maxHeartbeats 1000000 in
theorem wpX2_bitsOf {Γ : Cfg} {l : Launch} {d b : Nat} {g : GG} {K : Ou → HP → Prop} {t : Int} (ht : HI t) {x1 : Int} (hF : AW Γ l mX2_bitsOf (d + 1) b 4 [vR t, vI x1, vI 0, vI 0] [] (stt g) K) : Ct Γ l (d + 1) b yX2_bitsOf mX2_bitsOf [vR t, vI x1] (stt g) K := by
  refine Ct.enter (L := [vR t, vI x1, vU, vU]) rfl rfl rfl (by decide +kernel) (by simp [oneSlot]) (Nat.le_of_ble_eq_true rfl) rfl ?_
  refine aw_iconst (n := 0) (by decide +kernel) ?_
  refine aw_istore_n (k' := 2) (by decide +kernel) (by decide) ?_
  show AW Γ l mX2_bitsOf (d + 1) b 2 [vR t, vI x1, vI 0, vU] [] (stt g) K
  refine aw_iconst (n := 0) (by decide +kernel) ?_
  refine aw_istore_n (k' := 3) (by decide +kernel) (by decide) ?_
  show AW Γ l mX2_bitsOf (d + 1) b 4 [vR t, vI x1, vI 0, vI 0] [] (stt g) K
  exact hF
set_option maxHeartbeats 1000000 in
theorem wpX2_bitsOf_4 {Γ : Cfg} {l : Launch} {d b : Nat} {g : GG} {K : Ou → HP → Prop} {t : Int} (ht : HI t) {x1 : Int} {y2 : Int} {y3 : Int} (hF : (wr (g t 8) ≤ wr y3 → K (.inl (vI y2)) (stt g)) ∧ (¬ (wr (g t 8) ≤ wr y3) → (¬ wr (cel g (t + 1 + 4) y3) = wr x1 → AW Γ l mX2_bitsOf (d + 1) b 4 [vR t, vI x1, vI y2, vI (y3 + 1)] [] (stt g) K) ∧ (¬ (¬ wr (cel g (t + 1 + 4) y3) = wr x1) → AW Γ l mX2_bitsOf (d + 1) b 4 [vR t, vI x1, vI (iOr y2 (iShl 1 y3)), vI (y3 + 1)] [] (stt g) K))) : AW Γ l mX2_bitsOf (d + 1) b 4 [vR t, vI x1, vI y2, vI y3] [] (stt g) K := by
  refine aw_iload_n (k' := 3) (by decide +kernel) rfl ?_
  refine aw_aload_n (k' := 0) (by decide +kernel) rfl ?_
  refine gfX2_36 rfl (by decide +kernel) (OB.at ht.ob (by decide)) ?_
  refine ax_icmp_ge (off := 27) (tgt := 36) (x' := wr y3) (y' := wr (g t 8)) (by decide +kernel) (by decide) rfl rfl (fun hc => ?_) (fun hc => ?_)
  · have hF := hF.1 hc
    refine aw_iload_n (k' := 2) (by decide +kernel) rfl ?_
    exact aw_iret (by decide +kernel) rfl hF
  · have hF := hF.2 hc
    refine aw_aload_n (k' := 0) (by decide +kernel) rfl ?_
    refine gfX2_24 rfl (by decide +kernel) (OB.at ht.ob (by decide)) ?_
    refine AW.topR (ht.r4) ?_
    refine aw_iload_n (k' := 3) (by decide +kernel) rfl ?_
    refine aw_callSN (host := "HalfOaths") (y := yX11_cell) (M2 := mX11_cell) (as := [vR (t + 1 + 4), vI y3]) (S := []) (d2 := d) (b2 := 0) (b3 := b) cwX11_cell mlX2_64 stX11_cell (by decide +kernel) rfl (Nat.le_refl _) (Nat.le_of_eq (Nat.zero_add _)) rfl rfl (by simp [oneSlot]) (Nat.le_of_ble_eq_true rfl) (c_cell (ht.a4) ?_)
    show AW Γ l mX2_bitsOf (d + 1) b 20 [vR t, vI x1, vI y2, vI y3] [vI (cel g (t + 1 + 4) y3)] (stt g) K
    refine aw_iload_n (k' := 1) (by decide +kernel) rfl ?_
    refine ax_icmp_ne (off := 9) (tgt := 30) (x' := wr (cel g (t + 1 + 4) y3)) (y' := wr x1) (by decide +kernel) (by decide) rfl rfl (fun hc => ?_) (fun hc => ?_)
    · have hF := hF.1 hc
      refine aw_iinc (i := 3) (n := 1) (by decide +kernel) rfl (by decide) ?_
      show AW Γ l mX2_bitsOf (d + 1) b 33 [vR t, vI x1, vI y2, vI (y3 + 1)] [] (stt g) K
      refine aw_goto (off := -29) (tgt := 4) (by decide +kernel) (by decide) ?_
      exact hF
    · have hF := hF.2 hc
      refine aw_iload_n (k' := 2) (by decide +kernel) rfl ?_
      refine aw_iconst (n := 1) (by decide +kernel) ?_
      refine aw_iload_n (k' := 3) (by decide +kernel) rfl ?_
      refine aw_ishl (by decide +kernel) ?_
      refine aw_ior (by decide +kernel) ?_
      refine aw_istore_n (k' := 2) (by decide +kernel) (by decide) ?_
      show AW Γ l mX2_bitsOf (d + 1) b 30 [vR t, vI x1, vI (iOr y2 (iShl 1 y3)), vI y3] [] (stt g) K
      refine aw_iinc (i := 3) (n := 1) (by decide +kernel) rfl (by decide) ?_
      show AW Γ l mX2_bitsOf (d + 1) b 33 [vR t, vI x1, vI (iOr y2 (iShl 1 y3)), vI (y3 + 1)] [] (stt g) K
      refine aw_goto (off := -29) (tgt := 4) (by decide +kernel) (by decide) ?_
      exact hF

set_option maxHeartbeats 1000000 in
theorem wpX2_oddsBehind {Γ : Cfg} {l : Launch} {d b : Nat} {g : GG} {K : Ou → HP → Prop} {t : Int} (ht : HI t) {x1 : Int} {x2 : Int} (hF : K (.inl (vI (iDiv (x1 * (100 - (iMax 0 ((g t 10) - (10 * x2))))) 100))) (stt g)) : Ct Γ l d b yX2_oddsBehind mX2_oddsBehind [vR t, vI x1, vI x2] (stt g) K := by
  refine Ct.enter (L := [vR t, vI x1, vI x2]) rfl rfl rfl (by decide +kernel) (by simp [oneSlot]) (Nat.le_of_ble_eq_true rfl) rfl ?_
  refine aw_iload_n (k' := 1) (by decide +kernel) rfl ?_
  refine aw_bipush (n := 100) (by decide +kernel) (by decide +kernel) ?_
  refine aw_iconst (n := 0) (by decide +kernel) ?_
  refine aw_aload_n (k' := 0) (by decide +kernel) rfl ?_
  refine gfX2_43 rfl (by decide +kernel) (OB.at ht.ob (by decide)) ?_
  refine aw_bipush (n := 10) (by decide +kernel) (by decide +kernel) ?_
  refine aw_iload_n (k' := 2) (by decide +kernel) rfl ?_
  refine aw_imul (by decide +kernel) ?_
  refine aw_isub (by decide +kernel) ?_
  refine aw_mmax (by decide +kernel) mlX2_81 stJ9_max_7cf53 cwM_init cwM_max (by simp [oneSlot]) (Nat.le_of_ble_eq_true rfl) ?_
  refine aw_isub (by decide +kernel) ?_
  refine aw_imul (by decide +kernel) ?_
  refine aw_bipush (n := 100) (by decide +kernel) (by decide +kernel) ?_
  refine aw_idiv (by decide +kernel) (by decide +kernel) ?_
  exact aw_iret (by decide +kernel) rfl hF

set_option maxHeartbeats 1000000 in
theorem wpX2_settle {Γ : Cfg} {l : Launch} {d b : Nat} {g : GG} {K : Ou → HP → Prop} {t : Int} (ht : HI t) {x1 : Int} {x2 : Int} {x3 : Int} (hF : (∀ g1 : GG, g1 = puc (puc g (t + 1 + 4) x1 x2) (t + 1 + 5) x1 x3 → K (.inl vU) (stt g1))) : Ct Γ l (d + 1) b yX2_settle mX2_settle [vR t, vI x1, vI x2, vI x3] (stt g) K := by
  refine Ct.enter (L := [vR t, vI x1, vI x2, vI x3]) rfl rfl rfl (by decide +kernel) (by simp [oneSlot]) (Nat.le_of_ble_eq_true rfl) rfl ?_
  refine aw_aload_n (k' := 0) (by decide +kernel) rfl ?_
  refine gfX2_24 rfl (by decide +kernel) (OB.at ht.ob (by decide)) ?_
  refine AW.topR (ht.r4) ?_
  refine aw_iload_n (k' := 1) (by decide +kernel) rfl ?_
  refine aw_iload_n (k' := 2) (by decide +kernel) rfl ?_
  refine aw_callSN (host := "HalfOaths") (y := yX11_put) (M2 := mX11_put) (as := [vR (t + 1 + 4), vI x1, vI x2]) (S := []) (d2 := d) (b2 := 0) (b3 := b) cwX11_put mlX2_77 stX11_put (by decide +kernel) rfl (Nat.le_refl _) (Nat.le_of_eq (Nat.zero_add _)) rfl rfl (by simp [oneSlot]) (Nat.le_of_ble_eq_true rfl) (c_put (ht.a4) ?_)
  show AW Γ l mX2_settle (d + 1) b 9 [vR t, vI x1, vI x2, vI x3] [] (stt (puc g (t + 1 + 4) x1 x2)) K
  refine aw_aload_n (k' := 0) (by decide +kernel) rfl ?_
  refine gfX2_27 rfl (by decide +kernel) (OB.at ht.ob (by decide)) ?_
  refine AW.topR (ht.r5) ?_
  refine aw_iload_n (k' := 1) (by decide +kernel) rfl ?_
  refine aw_iload_n (k' := 3) (by decide +kernel) rfl ?_
  refine aw_callSN (host := "HalfOaths") (y := yX11_put) (M2 := mX11_put) (as := [vR (t + 1 + 5), vI x1, vI x3]) (S := []) (d2 := d) (b2 := 0) (b3 := b) cwX11_put mlX2_77 stX11_put (by decide +kernel) rfl (Nat.le_refl _) (Nat.le_of_eq (Nat.zero_add _)) rfl rfl (by simp [oneSlot]) (Nat.le_of_ble_eq_true rfl) (c_put (ht.a5) ?_)
  show AW Γ l mX2_settle (d + 1) b 18 [vR t, vI x1, vI x2, vI x3] [] (stt (puc (puc g (t + 1 + 4) x1 x2) (t + 1 + 5) x1 x3)) K
  show AW Γ l mX2_settle (d + 1) b 18 [vR t, vI x1, vI x2, vI x3] [] (stt (puc (puc g (t + 1 + 4) x1 x2) (t + 1 + 5) x1 x3)) K
  generalize eg1 : puc (puc g (t + 1 + 4) x1 x2) (t + 1 + 5) x1 x3 = g1
  replace hF := hF g1 eg1.symm
  exact aw_vret (by decide +kernel) rfl hF

set_option maxHeartbeats 1000000 in
theorem wpX2_note {Γ : Cfg} {l : Launch} {d b : Nat} {g : GG} {K : Ou → HP → Prop} {t : Int} (ht : HI t) {x1 : Int} {x2 : Int} {x3 : Int} {x4 : Int} (hF : (¬ wr (g t 14) = 60 → (∀ g1 : GG, g1 = puc g (t + 1 + 7) ((g t 14) * 5) (g t 11) → (∀ g2 : GG, g2 = puc g1 (t + 1 + 7) (((g t 14) * 5) + 1) x1 → (∀ g3 : GG, g3 = puc g2 (t + 1 + 7) (((g t 14) * 5) + 2) x2 → (∀ g4 : GG, g4 = puc g3 (t + 1 + 7) (((g t 14) * 5) + 3) x3 → (∀ g5 : GG, g5 = puc g4 (t + 1 + 7) (((g t 14) * 5) + 4) x4 → K (.inl vU) (stt (upd2 g5 t 14 ((g5 t 14) + 1))))))))) ∧ (¬ (¬ wr (g t 14) = 60) → (((0 : Int) ≤ 5 ∧ (0 : Int) ≤ 0 ∧ (0 : Int) ≤ wr ((ln (t + 1 + 7)) - 5)) ∧ (5 : Int) + wr ((ln (t + 1 + 7)) - 5) ≤ ln (t + 1 + 7) ∧ (0 : Int) + wr ((ln (t + 1 + 7)) - 5) ≤ ln (t + 1 + 7)) ∧ (∀ g6 : GG, g6 = cpy g (t + 1 + 7) (t + 1 + 7) 5 0 (wr ((ln (t + 1 + 7)) - 5)) → (∀ g7 : GG, g7 = puc (upd2 g6 t 14 ((g6 t 14) - 1)) (t + 1 + 7) (((upd2 g6 t 14 ((g6 t 14) - 1)) t 14) * 5) ((upd2 g6 t 14 ((g6 t 14) - 1)) t 11) → (∀ g8 : GG, g8 = puc g7 (t + 1 + 7) ((((upd2 g6 t 14 ((g6 t 14) - 1)) t 14) * 5) + 1) x1 → (∀ g9 : GG, g9 = puc g8 (t + 1 + 7) ((((upd2 g6 t 14 ((g6 t 14) - 1)) t 14) * 5) + 2) x2 → (∀ g10 : GG, g10 = puc g9 (t + 1 + 7) ((((upd2 g6 t 14 ((g6 t 14) - 1)) t 14) * 5) + 3) x3 → (∀ g11 : GG, g11 = puc g10 (t + 1 + 7) ((((upd2 g6 t 14 ((g6 t 14) - 1)) t 14) * 5) + 4) x4 → K (.inl vU) (stt (upd2 g11 t 14 ((g11 t 14) + 1))))))))))) : Ct Γ l (d + 1) b yX2_note mX2_note [vR t, vI x1, vI x2, vI x3, vI x4] (stt g) K := by
  refine Ct.enter (L := [vR t, vI x1, vI x2, vI x3, vI x4, vU]) rfl rfl rfl (by decide +kernel) (by simp [oneSlot]) (Nat.le_of_ble_eq_true rfl) rfl ?_
  refine aw_aload_n (k' := 0) (by decide +kernel) rfl ?_
  refine gfX2_55 rfl (by decide +kernel) (OB.at ht.ob (by decide)) ?_
  refine aw_bipush (n := 60) (by decide +kernel) (by decide +kernel) ?_
  refine ax_icmp_ne (off := 33) (tgt := 39) (x' := wr (g t 14)) (y' := 60) (by decide +kernel) (by decide) rfl (by decide +kernel) (fun hc => ?_) (fun hc => ?_)
  · have hF := hF.1 hc
    refine aw_aload_n (k' := 0) (by decide +kernel) rfl ?_
    refine gfX2_55 rfl (by decide +kernel) (OB.at ht.ob (by decide)) ?_
    refine aw_iconst (n := 5) (by decide +kernel) ?_
    refine aw_imul (by decide +kernel) ?_
    refine aw_istore (i := 5) (by decide +kernel) (by decide) ?_
    show AW Γ l mX2_note (d + 1) b 47 [vR t, vI x1, vI x2, vI x3, vI x4, vI ((g t 14) * 5)] [] (stt g) K
    refine aw_aload_n (k' := 0) (by decide +kernel) rfl ?_
    refine gfX2_33 rfl (by decide +kernel) (OB.at ht.ob (by decide)) ?_
    refine AW.topR (ht.r7) ?_
    refine aw_iload (i := 5) (by decide +kernel) rfl ?_
    refine aw_aload_n (k' := 0) (by decide +kernel) rfl ?_
    refine gfX2_46 rfl (by decide +kernel) (OB.at ht.ob (by decide)) ?_
    refine aw_callSN (host := "HalfOaths") (y := yX11_put) (M2 := mX11_put) (as := [vR (t + 1 + 7), vI ((g t 14) * 5), vI (g t 11)]) (S := []) (d2 := d) (b2 := 0) (b3 := b) cwX11_put mlX2_77 stX11_put (by decide +kernel) rfl (Nat.le_refl _) (Nat.le_of_eq (Nat.zero_add _)) rfl rfl (by simp [oneSlot]) (Nat.le_of_ble_eq_true rfl) (c_put (ht.a7) ?_)
    show AW Γ l mX2_note (d + 1) b 60 [vR t, vI x1, vI x2, vI x3, vI x4, vI ((g t 14) * 5)] [] (stt (puc g (t + 1 + 7) ((g t 14) * 5) (g t 11))) K
    show AW Γ l mX2_note (d + 1) b 60 [vR t, vI x1, vI x2, vI x3, vI x4, vI ((g t 14) * 5)] [] (stt (puc g (t + 1 + 7) ((g t 14) * 5) (g t 11))) K
    generalize eg1 : puc g (t + 1 + 7) ((g t 14) * 5) (g t 11) = g1
    replace hF := hF g1 eg1.symm
    refine aw_aload_n (k' := 0) (by decide +kernel) rfl ?_
    refine gfX2_33 rfl (by decide +kernel) (OB.at ht.ob (by decide)) ?_
    refine AW.topR (ht.r7) ?_
    refine aw_iload (i := 5) (by decide +kernel) rfl ?_
    refine aw_iconst (n := 1) (by decide +kernel) ?_
    refine aw_iadd (by decide +kernel) ?_
    refine aw_iload_n (k' := 1) (by decide +kernel) rfl ?_
    refine aw_callSN (host := "HalfOaths") (y := yX11_put) (M2 := mX11_put) (as := [vR (t + 1 + 7), vI (((g t 14) * 5) + 1), vI x1]) (S := []) (d2 := d) (b2 := 0) (b3 := b) cwX11_put mlX2_77 stX11_put (by decide +kernel) rfl (Nat.le_refl _) (Nat.le_of_eq (Nat.zero_add _)) rfl rfl (by simp [oneSlot]) (Nat.le_of_ble_eq_true rfl) (c_put (ht.a7) ?_)
    show AW Γ l mX2_note (d + 1) b 72 [vR t, vI x1, vI x2, vI x3, vI x4, vI ((g t 14) * 5)] [] (stt (puc g1 (t + 1 + 7) (((g t 14) * 5) + 1) x1)) K
    show AW Γ l mX2_note (d + 1) b 72 [vR t, vI x1, vI x2, vI x3, vI x4, vI ((g t 14) * 5)] [] (stt (puc g1 (t + 1 + 7) (((g t 14) * 5) + 1) x1)) K
    generalize eg2 : puc g1 (t + 1 + 7) (((g t 14) * 5) + 1) x1 = g2
    replace hF := hF g2 eg2.symm
    refine aw_aload_n (k' := 0) (by decide +kernel) rfl ?_
    refine gfX2_33 rfl (by decide +kernel) (OB.at ht.ob (by decide)) ?_
    refine AW.topR (ht.r7) ?_
    refine aw_iload (i := 5) (by decide +kernel) rfl ?_
    refine aw_iconst (n := 2) (by decide +kernel) ?_
    refine aw_iadd (by decide +kernel) ?_
    refine aw_iload_n (k' := 2) (by decide +kernel) rfl ?_
    refine aw_callSN (host := "HalfOaths") (y := yX11_put) (M2 := mX11_put) (as := [vR (t + 1 + 7), vI (((g t 14) * 5) + 2), vI x2]) (S := []) (d2 := d) (b2 := 0) (b3 := b) cwX11_put mlX2_77 stX11_put (by decide +kernel) rfl (Nat.le_refl _) (Nat.le_of_eq (Nat.zero_add _)) rfl rfl (by simp [oneSlot]) (Nat.le_of_ble_eq_true rfl) (c_put (ht.a7) ?_)
    show AW Γ l mX2_note (d + 1) b 84 [vR t, vI x1, vI x2, vI x3, vI x4, vI ((g t 14) * 5)] [] (stt (puc g2 (t + 1 + 7) (((g t 14) * 5) + 2) x2)) K
    show AW Γ l mX2_note (d + 1) b 84 [vR t, vI x1, vI x2, vI x3, vI x4, vI ((g t 14) * 5)] [] (stt (puc g2 (t + 1 + 7) (((g t 14) * 5) + 2) x2)) K
    generalize eg3 : puc g2 (t + 1 + 7) (((g t 14) * 5) + 2) x2 = g3
    replace hF := hF g3 eg3.symm
    refine aw_aload_n (k' := 0) (by decide +kernel) rfl ?_
    refine gfX2_33 rfl (by decide +kernel) (OB.at ht.ob (by decide)) ?_
    refine AW.topR (ht.r7) ?_
    refine aw_iload (i := 5) (by decide +kernel) rfl ?_
    refine aw_iconst (n := 3) (by decide +kernel) ?_
    refine aw_iadd (by decide +kernel) ?_
    refine aw_iload_n (k' := 3) (by decide +kernel) rfl ?_
    refine aw_callSN (host := "HalfOaths") (y := yX11_put) (M2 := mX11_put) (as := [vR (t + 1 + 7), vI (((g t 14) * 5) + 3), vI x3]) (S := []) (d2 := d) (b2 := 0) (b3 := b) cwX11_put mlX2_77 stX11_put (by decide +kernel) rfl (Nat.le_refl _) (Nat.le_of_eq (Nat.zero_add _)) rfl rfl (by simp [oneSlot]) (Nat.le_of_ble_eq_true rfl) (c_put (ht.a7) ?_)
    show AW Γ l mX2_note (d + 1) b 96 [vR t, vI x1, vI x2, vI x3, vI x4, vI ((g t 14) * 5)] [] (stt (puc g3 (t + 1 + 7) (((g t 14) * 5) + 3) x3)) K
    show AW Γ l mX2_note (d + 1) b 96 [vR t, vI x1, vI x2, vI x3, vI x4, vI ((g t 14) * 5)] [] (stt (puc g3 (t + 1 + 7) (((g t 14) * 5) + 3) x3)) K
    generalize eg4 : puc g3 (t + 1 + 7) (((g t 14) * 5) + 3) x3 = g4
    replace hF := hF g4 eg4.symm
    refine aw_aload_n (k' := 0) (by decide +kernel) rfl ?_
    refine gfX2_33 rfl (by decide +kernel) (OB.at ht.ob (by decide)) ?_
    refine AW.topR (ht.r7) ?_
    refine aw_iload (i := 5) (by decide +kernel) rfl ?_
    refine aw_iconst (n := 4) (by decide +kernel) ?_
    refine aw_iadd (by decide +kernel) ?_
    refine aw_iload (i := 4) (by decide +kernel) rfl ?_
    refine aw_callSN (host := "HalfOaths") (y := yX11_put) (M2 := mX11_put) (as := [vR (t + 1 + 7), vI (((g t 14) * 5) + 4), vI x4]) (S := []) (d2 := d) (b2 := 0) (b3 := b) cwX11_put mlX2_77 stX11_put (by decide +kernel) rfl (Nat.le_refl _) (Nat.le_of_eq (Nat.zero_add _)) rfl rfl (by simp [oneSlot]) (Nat.le_of_ble_eq_true rfl) (c_put (ht.a7) ?_)
    show AW Γ l mX2_note (d + 1) b 109 [vR t, vI x1, vI x2, vI x3, vI x4, vI ((g t 14) * 5)] [] (stt (puc g4 (t + 1 + 7) (((g t 14) * 5) + 4) x4)) K
    show AW Γ l mX2_note (d + 1) b 109 [vR t, vI x1, vI x2, vI x3, vI x4, vI ((g t 14) * 5)] [] (stt (puc g4 (t + 1 + 7) (((g t 14) * 5) + 4) x4)) K
    generalize eg5 : puc g4 (t + 1 + 7) (((g t 14) * 5) + 4) x4 = g5
    replace hF := hF g5 eg5.symm
    refine aw_aload_n (k' := 0) (by decide +kernel) rfl ?_
    refine aw_dup (by decide +kernel) trivial ?_
    refine gfX2_55 rfl (by decide +kernel) (OB.at ht.ob (by decide)) ?_
    refine aw_iconst (n := 1) (by decide +kernel) ?_
    refine aw_iadd (by decide +kernel) ?_
    refine pfX2_55 rfl (by decide +kernel) (OB.at ht.ob (by decide)) ?_
    show AW Γ l mX2_note (d + 1) b 119 [vR t, vI x1, vI x2, vI x3, vI x4, vI ((g t 14) * 5)] [] (stt (upd2 g5 t 14 ((g5 t 14) + 1))) K
    exact aw_vret (by decide +kernel) rfl hF
  · have hF := hF.2 hc
    refine aw_aload_n (k' := 0) (by decide +kernel) rfl ?_
    refine gfX2_33 rfl (by decide +kernel) (OB.at ht.ob (by decide)) ?_
    refine AW.topR (ht.r7) ?_
    refine aw_iconst (n := 5) (by decide +kernel) ?_
    refine aw_aload_n (k' := 0) (by decide +kernel) rfl ?_
    refine gfX2_33 rfl (by decide +kernel) (OB.at ht.ob (by decide)) ?_
    refine AW.topR (ht.r7) ?_
    refine aw_iconst (n := 0) (by decide +kernel) ?_
    refine aw_aload_n (k' := 0) (by decide +kernel) rfl ?_
    refine gfX2_33 rfl (by decide +kernel) (OB.at ht.ob (by decide)) ?_
    refine AW.topR (ht.r7) ?_
    refine aw_alen (by decide +kernel) (by decide) (IA.at (ht.a7)) ?_
    show AW Γ l mX2_note (d + 1) b 24 [vR t, vI x1, vI x2, vI x3, vI x4, vU] [vI (ln (t + 1 + 7)), vI 0, vR (t + 1 + 7), vI 5, vR (t + 1 + 7)] (stt g) K
    refine aw_iconst (n := 5) (by decide +kernel) ?_
    refine aw_isub (by decide +kernel) ?_
    refine aw_copy (sp' := 5) (dp' := 0) (n' := wr ((ln (t + 1 + 7)) - 5)) (by decide +kernel) mlX2_58 cwSy_nat cwSy_st cwSy_init (IA.at (ht.a7)) (IA.at (ht.a7)) (by decide +kernel) (by decide +kernel) rfl hF.1 (by simp [oneSlot]) (Nat.le_of_ble_eq_true rfl) ?_
    replace hF := hF.2
    show AW Γ l mX2_note (d + 1) b 29 [vR t, vI x1, vI x2, vI x3, vI x4, vU] [] (stt (cpy g (t + 1 + 7) (t + 1 + 7) 5 0 (wr ((ln (t + 1 + 7)) - 5)))) K
    generalize eg6 : cpy g (t + 1 + 7) (t + 1 + 7) 5 0 (wr ((ln (t + 1 + 7)) - 5)) = g6
    replace hF := hF g6 eg6.symm
    refine aw_aload_n (k' := 0) (by decide +kernel) rfl ?_
    refine aw_dup (by decide +kernel) trivial ?_
    refine gfX2_55 rfl (by decide +kernel) (OB.at ht.ob (by decide)) ?_
    refine aw_iconst (n := 1) (by decide +kernel) ?_
    refine aw_isub (by decide +kernel) ?_
    refine pfX2_55 rfl (by decide +kernel) (OB.at ht.ob (by decide)) ?_
    show AW Γ l mX2_note (d + 1) b 39 [vR t, vI x1, vI x2, vI x3, vI x4, vU] [] (stt (upd2 g6 t 14 ((g6 t 14) - 1))) K
    refine aw_aload_n (k' := 0) (by decide +kernel) rfl ?_
    refine gfX2_55 rfl (by decide +kernel) (OB.at ht.ob (by decide)) ?_
    refine aw_iconst (n := 5) (by decide +kernel) ?_
    refine aw_imul (by decide +kernel) ?_
    refine aw_istore (i := 5) (by decide +kernel) (by decide) ?_
    show AW Γ l mX2_note (d + 1) b 47 [vR t, vI x1, vI x2, vI x3, vI x4, vI (((upd2 g6 t 14 ((g6 t 14) - 1)) t 14) * 5)] [] (stt (upd2 g6 t 14 ((g6 t 14) - 1))) K
    refine aw_aload_n (k' := 0) (by decide +kernel) rfl ?_
    refine gfX2_33 rfl (by decide +kernel) (OB.at ht.ob (by decide)) ?_
    refine AW.topR (ht.r7) ?_
    refine aw_iload (i := 5) (by decide +kernel) rfl ?_
    refine aw_aload_n (k' := 0) (by decide +kernel) rfl ?_
    refine gfX2_46 rfl (by decide +kernel) (OB.at ht.ob (by decide)) ?_
    refine aw_callSN (host := "HalfOaths") (y := yX11_put) (M2 := mX11_put) (as := [vR (t + 1 + 7), vI (((upd2 g6 t 14 ((g6 t 14) - 1)) t 14) * 5), vI ((upd2 g6 t 14 ((g6 t 14) - 1)) t 11)]) (S := []) (d2 := d) (b2 := 0) (b3 := b) cwX11_put mlX2_77 stX11_put (by decide +kernel) rfl (Nat.le_refl _) (Nat.le_of_eq (Nat.zero_add _)) rfl rfl (by simp [oneSlot]) (Nat.le_of_ble_eq_true rfl) (c_put (ht.a7) ?_)
    show AW Γ l mX2_note (d + 1) b 60 [vR t, vI x1, vI x2, vI x3, vI x4, vI (((upd2 g6 t 14 ((g6 t 14) - 1)) t 14) * 5)] [] (stt (puc (upd2 g6 t 14 ((g6 t 14) - 1)) (t + 1 + 7) (((upd2 g6 t 14 ((g6 t 14) - 1)) t 14) * 5) ((upd2 g6 t 14 ((g6 t 14) - 1)) t 11))) K
    show AW Γ l mX2_note (d + 1) b 60 [vR t, vI x1, vI x2, vI x3, vI x4, vI (((upd2 g6 t 14 ((g6 t 14) - 1)) t 14) * 5)] [] (stt (puc (upd2 g6 t 14 ((g6 t 14) - 1)) (t + 1 + 7) (((upd2 g6 t 14 ((g6 t 14) - 1)) t 14) * 5) ((upd2 g6 t 14 ((g6 t 14) - 1)) t 11))) K
    generalize eg7 : puc (upd2 g6 t 14 ((g6 t 14) - 1)) (t + 1 + 7) (((upd2 g6 t 14 ((g6 t 14) - 1)) t 14) * 5) ((upd2 g6 t 14 ((g6 t 14) - 1)) t 11) = g7
    replace hF := hF g7 eg7.symm
    refine aw_aload_n (k' := 0) (by decide +kernel) rfl ?_
    refine gfX2_33 rfl (by decide +kernel) (OB.at ht.ob (by decide)) ?_
    refine AW.topR (ht.r7) ?_
    refine aw_iload (i := 5) (by decide +kernel) rfl ?_
    refine aw_iconst (n := 1) (by decide +kernel) ?_
    refine aw_iadd (by decide +kernel) ?_
    refine aw_iload_n (k' := 1) (by decide +kernel) rfl ?_
    refine aw_callSN (host := "HalfOaths") (y := yX11_put) (M2 := mX11_put) (as := [vR (t + 1 + 7), vI ((((upd2 g6 t 14 ((g6 t 14) - 1)) t 14) * 5) + 1), vI x1]) (S := []) (d2 := d) (b2 := 0) (b3 := b) cwX11_put mlX2_77 stX11_put (by decide +kernel) rfl (Nat.le_refl _) (Nat.le_of_eq (Nat.zero_add _)) rfl rfl (by simp [oneSlot]) (Nat.le_of_ble_eq_true rfl) (c_put (ht.a7) ?_)
    show AW Γ l mX2_note (d + 1) b 72 [vR t, vI x1, vI x2, vI x3, vI x4, vI (((upd2 g6 t 14 ((g6 t 14) - 1)) t 14) * 5)] [] (stt (puc g7 (t + 1 + 7) ((((upd2 g6 t 14 ((g6 t 14) - 1)) t 14) * 5) + 1) x1)) K
    show AW Γ l mX2_note (d + 1) b 72 [vR t, vI x1, vI x2, vI x3, vI x4, vI (((upd2 g6 t 14 ((g6 t 14) - 1)) t 14) * 5)] [] (stt (puc g7 (t + 1 + 7) ((((upd2 g6 t 14 ((g6 t 14) - 1)) t 14) * 5) + 1) x1)) K
    generalize eg8 : puc g7 (t + 1 + 7) ((((upd2 g6 t 14 ((g6 t 14) - 1)) t 14) * 5) + 1) x1 = g8
    replace hF := hF g8 eg8.symm
    refine aw_aload_n (k' := 0) (by decide +kernel) rfl ?_
    refine gfX2_33 rfl (by decide +kernel) (OB.at ht.ob (by decide)) ?_
    refine AW.topR (ht.r7) ?_
    refine aw_iload (i := 5) (by decide +kernel) rfl ?_
    refine aw_iconst (n := 2) (by decide +kernel) ?_
    refine aw_iadd (by decide +kernel) ?_
    refine aw_iload_n (k' := 2) (by decide +kernel) rfl ?_
    refine aw_callSN (host := "HalfOaths") (y := yX11_put) (M2 := mX11_put) (as := [vR (t + 1 + 7), vI ((((upd2 g6 t 14 ((g6 t 14) - 1)) t 14) * 5) + 2), vI x2]) (S := []) (d2 := d) (b2 := 0) (b3 := b) cwX11_put mlX2_77 stX11_put (by decide +kernel) rfl (Nat.le_refl _) (Nat.le_of_eq (Nat.zero_add _)) rfl rfl (by simp [oneSlot]) (Nat.le_of_ble_eq_true rfl) (c_put (ht.a7) ?_)
    show AW Γ l mX2_note (d + 1) b 84 [vR t, vI x1, vI x2, vI x3, vI x4, vI (((upd2 g6 t 14 ((g6 t 14) - 1)) t 14) * 5)] [] (stt (puc g8 (t + 1 + 7) ((((upd2 g6 t 14 ((g6 t 14) - 1)) t 14) * 5) + 2) x2)) K
    show AW Γ l mX2_note (d + 1) b 84 [vR t, vI x1, vI x2, vI x3, vI x4, vI (((upd2 g6 t 14 ((g6 t 14) - 1)) t 14) * 5)] [] (stt (puc g8 (t + 1 + 7) ((((upd2 g6 t 14 ((g6 t 14) - 1)) t 14) * 5) + 2) x2)) K
    generalize eg9 : puc g8 (t + 1 + 7) ((((upd2 g6 t 14 ((g6 t 14) - 1)) t 14) * 5) + 2) x2 = g9
    replace hF := hF g9 eg9.symm
    refine aw_aload_n (k' := 0) (by decide +kernel) rfl ?_
    refine gfX2_33 rfl (by decide +kernel) (OB.at ht.ob (by decide)) ?_
    refine AW.topR (ht.r7) ?_
    refine aw_iload (i := 5) (by decide +kernel) rfl ?_
    refine aw_iconst (n := 3) (by decide +kernel) ?_
    refine aw_iadd (by decide +kernel) ?_
    refine aw_iload_n (k' := 3) (by decide +kernel) rfl ?_
    refine aw_callSN (host := "HalfOaths") (y := yX11_put) (M2 := mX11_put) (as := [vR (t + 1 + 7), vI ((((upd2 g6 t 14 ((g6 t 14) - 1)) t 14) * 5) + 3), vI x3]) (S := []) (d2 := d) (b2 := 0) (b3 := b) cwX11_put mlX2_77 stX11_put (by decide +kernel) rfl (Nat.le_refl _) (Nat.le_of_eq (Nat.zero_add _)) rfl rfl (by simp [oneSlot]) (Nat.le_of_ble_eq_true rfl) (c_put (ht.a7) ?_)
    show AW Γ l mX2_note (d + 1) b 96 [vR t, vI x1, vI x2, vI x3, vI x4, vI (((upd2 g6 t 14 ((g6 t 14) - 1)) t 14) * 5)] [] (stt (puc g9 (t + 1 + 7) ((((upd2 g6 t 14 ((g6 t 14) - 1)) t 14) * 5) + 3) x3)) K
    show AW Γ l mX2_note (d + 1) b 96 [vR t, vI x1, vI x2, vI x3, vI x4, vI (((upd2 g6 t 14 ((g6 t 14) - 1)) t 14) * 5)] [] (stt (puc g9 (t + 1 + 7) ((((upd2 g6 t 14 ((g6 t 14) - 1)) t 14) * 5) + 3) x3)) K
    generalize eg10 : puc g9 (t + 1 + 7) ((((upd2 g6 t 14 ((g6 t 14) - 1)) t 14) * 5) + 3) x3 = g10
    replace hF := hF g10 eg10.symm
    refine aw_aload_n (k' := 0) (by decide +kernel) rfl ?_
    refine gfX2_33 rfl (by decide +kernel) (OB.at ht.ob (by decide)) ?_
    refine AW.topR (ht.r7) ?_
    refine aw_iload (i := 5) (by decide +kernel) rfl ?_
    refine aw_iconst (n := 4) (by decide +kernel) ?_
    refine aw_iadd (by decide +kernel) ?_
    refine aw_iload (i := 4) (by decide +kernel) rfl ?_
    refine aw_callSN (host := "HalfOaths") (y := yX11_put) (M2 := mX11_put) (as := [vR (t + 1 + 7), vI ((((upd2 g6 t 14 ((g6 t 14) - 1)) t 14) * 5) + 4), vI x4]) (S := []) (d2 := d) (b2 := 0) (b3 := b) cwX11_put mlX2_77 stX11_put (by decide +kernel) rfl (Nat.le_refl _) (Nat.le_of_eq (Nat.zero_add _)) rfl rfl (by simp [oneSlot]) (Nat.le_of_ble_eq_true rfl) (c_put (ht.a7) ?_)
    show AW Γ l mX2_note (d + 1) b 109 [vR t, vI x1, vI x2, vI x3, vI x4, vI (((upd2 g6 t 14 ((g6 t 14) - 1)) t 14) * 5)] [] (stt (puc g10 (t + 1 + 7) ((((upd2 g6 t 14 ((g6 t 14) - 1)) t 14) * 5) + 4) x4)) K
    show AW Γ l mX2_note (d + 1) b 109 [vR t, vI x1, vI x2, vI x3, vI x4, vI (((upd2 g6 t 14 ((g6 t 14) - 1)) t 14) * 5)] [] (stt (puc g10 (t + 1 + 7) ((((upd2 g6 t 14 ((g6 t 14) - 1)) t 14) * 5) + 4) x4)) K
    generalize eg11 : puc g10 (t + 1 + 7) ((((upd2 g6 t 14 ((g6 t 14) - 1)) t 14) * 5) + 4) x4 = g11
    replace hF := hF g11 eg11.symm
    refine aw_aload_n (k' := 0) (by decide +kernel) rfl ?_
    refine aw_dup (by decide +kernel) trivial ?_
    refine gfX2_55 rfl (by decide +kernel) (OB.at ht.ob (by decide)) ?_
    refine aw_iconst (n := 1) (by decide +kernel) ?_
    refine aw_iadd (by decide +kernel) ?_
    refine pfX2_55 rfl (by decide +kernel) (OB.at ht.ob (by decide)) ?_
    show AW Γ l mX2_note (d + 1) b 119 [vR t, vI x1, vI x2, vI x3, vI x4, vI (((upd2 g6 t 14 ((g6 t 14) - 1)) t 14) * 5)] [] (stt (upd2 g11 t 14 ((g11 t 14) + 1))) K
    exact aw_vret (by decide +kernel) rfl hF

set_option maxHeartbeats 1000000 in
theorem wpX2_draw {Γ : Cfg} {l : Launch} {d b : Nat} {g : GG} {K : Ou → HP → Prop} {t : Int} (ht : HI t) (hF : (∀ g1 : GG, g1 = upd2 g t 13 ((1103515245 * (g t 13)) + 12345) → K (.inl (vI (iAnd (iUsh (g1 t 13) 16) 32767))) (stt g1))) : Ct Γ l d b yX2_draw mX2_draw [vR t] (stt g) K := by
  refine Ct.enter (L := [vR t]) rfl rfl rfl (by decide +kernel) (by simp [oneSlot]) (Nat.le_of_ble_eq_true rfl) rfl ?_
  refine aw_aload_n (k' := 0) (by decide +kernel) rfl ?_
  refine aw_ldc (idx := 84) (z := 1103515245) (by decide +kernel) (tm5 49 (by decide +kernel) (by decide +kernel)) ?_
  refine aw_aload_n (k' := 0) (by decide +kernel) rfl ?_
  refine gfX2_52 rfl (by decide +kernel) (OB.at ht.ob (by decide)) ?_
  refine aw_imul (by decide +kernel) ?_
  refine aw_sipush (n := 12345) (by decide +kernel) (by decide +kernel) ?_
  refine aw_iadd (by decide +kernel) ?_
  refine pfX2_52 rfl (by decide +kernel) (OB.at ht.ob (by decide)) ?_
  show AW Γ l mX2_draw d b 15 [vR t] [] (stt (upd2 g t 13 ((1103515245 * (g t 13)) + 12345))) K
  generalize eg1 : upd2 g t 13 ((1103515245 * (g t 13)) + 12345) = g1
  replace hF := hF g1 eg1.symm
  refine aw_aload_n (k' := 0) (by decide +kernel) rfl ?_
  refine gfX2_52 rfl (by decide +kernel) (OB.at ht.ob (by decide)) ?_
  refine aw_bipush (n := 16) (by decide +kernel) (by decide +kernel) ?_
  refine aw_iushr (by decide +kernel) ?_
  refine aw_sipush (n := 32767) (by decide +kernel) (by decide +kernel) ?_
  refine aw_iand (by decide +kernel) ?_
  exact aw_iret (by decide +kernel) rfl hF

set_option maxHeartbeats 1000000 in
theorem wpX9_push {Γ : Cfg} {l : Launch} {d b : Nat} {g : GG} {K : Ou → HP → Prop} {x1 : Int} (hF : AW Γ l mX9_push (d + 1) b 3 [vR 2, vI x1, vI 24] [] (stt g) K) : Ct Γ l (d + 1) b yX9_push mX9_push [vR 2, vI x1] (stt g) K := by
  refine Ct.enter (L := [vR 2, vI x1, vU]) rfl rfl rfl (by decide +kernel) (by simp [oneSlot]) (Nat.le_of_ble_eq_true rfl) rfl ?_
  refine aw_bipush (n := 24) (by decide +kernel) (by decide +kernel) ?_
  refine aw_istore_n (k' := 2) (by decide +kernel) (by decide) ?_
  show AW Γ l mX9_push (d + 1) b 3 [vR 2, vI x1, vI 24] [] (stt g) K
  exact hF
set_option maxHeartbeats 1000000 in
theorem wpX9_push_3 {Γ : Cfg} {l : Launch} {d b : Nat} {g : GG} {K : Ou → HP → Prop} {x1 : Int} {y2 : Int} (hF : (wr y2 < 0 → K (.inl vU) (stt g)) ∧ (¬ (wr y2 < 0) → (∀ g1 : GG, g1 = puc g 3 (g 2 1) (iAnd (iUsh x1 y2) 255) → AW Γ l mX9_push (d + 1) b 3 [vR 2, vI x1, vI (y2 + (-8))] [] (stt (upd2 g1 2 1 ((g1 2 1) + 1))) K))) : AW Γ l mX9_push (d + 1) b 3 [vR 2, vI x1, vI y2] [] (stt g) K := by
  refine aw_iload_n (k' := 2) (by decide +kernel) rfl ?_
  refine ax_if_lt (off := 37) (tgt := 41) (x' := wr y2) (by decide +kernel) (by decide) rfl (fun hc => ?_) (fun hc => ?_)
  · have hF := hF.1 hc
    exact aw_vret (by decide +kernel) rfl hF
  · have hF := hF.2 hc
    refine aw_aload_n (k' := 0) (by decide +kernel) rfl ?_
    refine gfX9_9 rfl (by decide +kernel) (OB.at (ci := 7) (show shp 2 = (17, 0) by decide +kernel) (by decide)) ?_
    refine AW.topR (show RC 2 0 = 3 by decide +kernel) ?_
    refine aw_aload_n (k' := 0) (by decide +kernel) rfl ?_
    refine gfX9_15 rfl (by decide +kernel) (OB.at (ci := 7) (show shp 2 = (17, 0) by decide +kernel) (by decide)) ?_
    refine aw_iload_n (k' := 1) (by decide +kernel) rfl ?_
    refine aw_iload_n (k' := 2) (by decide +kernel) rfl ?_
    refine aw_iushr (by decide +kernel) ?_
    refine aw_sipush (n := 255) (by decide +kernel) (by decide +kernel) ?_
    refine aw_iand (by decide +kernel) ?_
    refine aw_callSN (host := "HalfOaths") (y := yX11_put) (M2 := mX11_put) (as := [vR 3, vI (g 2 1), vI (iAnd (iUsh x1 y2) 255)]) (S := []) (d2 := d) (b2 := 0) (b3 := b) cwX11_put mlX9_19 stX11_put (by decide +kernel) rfl (Nat.le_refl _) (Nat.le_of_eq (Nat.zero_add _)) rfl rfl (by simp [oneSlot]) (Nat.le_of_ble_eq_true rfl) (c_put (show (shp 3).1 = 0 by decide +kernel) ?_)
    show AW Γ l mX9_push (d + 1) b 25 [vR 2, vI x1, vI y2] [] (stt (puc g 3 (g 2 1) (iAnd (iUsh x1 y2) 255))) K
    show AW Γ l mX9_push (d + 1) b 25 [vR 2, vI x1, vI y2] [] (stt (puc g 3 (g 2 1) (iAnd (iUsh x1 y2) 255))) K
    generalize eg1 : puc g 3 (g 2 1) (iAnd (iUsh x1 y2) 255) = g1
    replace hF := hF g1 eg1.symm
    refine aw_aload_n (k' := 0) (by decide +kernel) rfl ?_
    refine aw_dup (by decide +kernel) trivial ?_
    refine gfX9_15 rfl (by decide +kernel) (OB.at (ci := 7) (show shp 2 = (17, 0) by decide +kernel) (by decide)) ?_
    refine aw_iconst (n := 1) (by decide +kernel) ?_
    refine aw_iadd (by decide +kernel) ?_
    refine pfX9_15 rfl (by decide +kernel) (OB.at (ci := 7) (show shp 2 = (17, 0) by decide +kernel) (by decide)) ?_
    show AW Γ l mX9_push (d + 1) b 35 [vR 2, vI x1, vI y2] [] (stt (upd2 g1 2 1 ((g1 2 1) + 1))) K
    refine aw_iinc (i := 2) (n := -8) (by decide +kernel) rfl (by decide) ?_
    show AW Γ l mX9_push (d + 1) b 38 [vR 2, vI x1, vI (y2 + (-8))] [] (stt (upd2 g1 2 1 ((g1 2 1) + 1))) K
    refine aw_goto (off := -35) (tgt := 3) (by decide +kernel) (by decide) ?_
    exact hF

set_option maxHeartbeats 1000000 in
theorem wpX9_takeUp {Γ : Cfg} {l : Launch} {d b : Nat} {g : GG} {K : Ou → HP → Prop}  (hF : K (.inl (vI (g 2 1))) (stt (upd2 g 2 1 0))) : Ct Γ l d b yX9_takeUp mX9_takeUp [vR 2] (stt g) K := by
  refine Ct.enter (L := [vR 2, vU]) rfl rfl rfl (by decide +kernel) (by simp [oneSlot]) (Nat.le_of_ble_eq_true rfl) rfl ?_
  refine aw_aload_n (k' := 0) (by decide +kernel) rfl ?_
  refine gfX9_15 rfl (by decide +kernel) (OB.at (ci := 7) (show shp 2 = (17, 0) by decide +kernel) (by decide)) ?_
  refine aw_istore_n (k' := 1) (by decide +kernel) (by decide) ?_
  show AW Γ l mX9_takeUp d b 5 [vR 2, vI (g 2 1)] [] (stt g) K
  refine aw_aload_n (k' := 0) (by decide +kernel) rfl ?_
  refine aw_iconst (n := 0) (by decide +kernel) ?_
  refine pfX9_15 rfl (by decide +kernel) (OB.at (ci := 7) (show shp 2 = (17, 0) by decide +kernel) (by decide)) ?_
  show AW Γ l mX9_takeUp d b 10 [vR 2, vI (g 2 1)] [] (stt (upd2 g 2 1 0)) K
  refine aw_iload_n (k' := 1) (by decide +kernel) rfl ?_
  exact aw_iret (by decide +kernel) rfl hF

