/-! THE SMALL HELPERS -/
theorem cwM_init : Cond.initialized "java/lang/Math" ∈ gw := tb_mem 26 (by decide +kernel) (by decide +kernel)
theorem stJ9_max_7cf53' : Cond.static Lib.Math.max.name ∈ gw := tb_mem 497 (by decide +kernel) (by decide +kernel)
theorem cwM_max : Cond.code Lib.Math.max.name Lib.Math.max.code 2 (some .int) ∈ gw := tb_mem 498 (by decide +kernel) (by decide +kernel)
theorem cwM_min : Cond.code Lib.Math.min.name Lib.Math.min.code 2 (some .int) ∈ gw := tb_mem 462 (by decide +kernel) (by decide +kernel)

theorem cwSy_nat : Cond.native arraycopyName ∈ gw := tb_mem 541 (by decide +kernel) (by decide +kernel)
theorem cwSy_st : Cond.static arraycopyName ∈ gw := tb_mem 540 (by decide +kernel) (by decide +kernel)
theorem cwSy_init : Cond.initialized "java/lang/System" ∈ gw := tb_mem 18 (by decide +kernel) (by decide +kernel)
theorem mlX2_58 : Cond.methodLink RX2 58 arraycopyName ∈ gw := tb_mem 539 (by decide +kernel) (by decide +kernel)
theorem mlX4_38 : Cond.methodLink RX4 38 arraycopyName ∈ gw := tb_mem 550 (by decide +kernel) (by decide +kernel)
theorem mlX5_66 : Cond.methodLink RX5 66 arraycopyName ∈ gw := tb_mem 1144 (by decide +kernel) (by decide +kernel)
theorem aw_ldcw {Γ : Cfg} {l : Launch} {M : MT} {d b pc : Nat} {L S : List AV} {h : HP} {K : Ou → HP → Prop} {idx : Nat} {z : Int} (dg : decode M.2.1 pc = .ok (.ldc_w idx, 3)) (hc : Cond.constant M.1 idx (Int32.ofInt z) ∈ gw) (k : AW Γ l M d b (pc + 3) L (vI z :: S) h K) : AW Γ l M d b pc L S h K :=
  AW.step k fun hx hb hown hts hl kk => lv_ldcw hx hb hown (hts _ hc) dg (kk _ hl)
def okP (p w : Int) : Prop := 0 ≤ wr (12 + 29 * p + w) ∧ wr (12 + 29 * p + w) < 2184
def ofP (g : GG) (p w : Int) : Int := g 172 (wr (12 + 29 * p + w))
set_option maxHeartbeats 1000000 in
theorem wpX11_cell {Γ : Cfg} {l : Launch} {d b : Nat} {g : GG} {K : Ou → HP → Prop} {r0 : Int} (hr0 : IA r0) {x1 : Int} (hF : (wr x1 < 0 → K (.inl (vI 0)) (stt g)) ∧ (¬ (wr x1 < 0) → (ln r0 ≤ wr x1 → K (.inl (vI 0)) (stt g)) ∧ (¬ (ln r0 ≤ wr x1) → (0 ≤ wr x1 ∧ wr x1 < ln r0) ∧ (K (.inl (vI (g r0 (wr x1)))) (stt g))))) : Ct Γ l d b yX11_cell mX11_cell [vR r0, vI x1] (stt g) K := by
  refine Ct.enter (L := [vR r0, vI x1]) rfl rfl rfl (by decide +kernel) (by simp [oneSlot]) (Nat.le_of_ble_eq_true rfl) rfl ?_
  refine aw_iload_n (k' := 1) (by decide +kernel) rfl ?_
  refine ax_if_lt (off := 15) (tgt := 16) (x' := wr x1) (by decide +kernel) (by decide) rfl (fun hc => ?_) (fun hc => ?_)
  · have hF := hF.1 hc
    refine aw_iconst (n := 0) (by decide +kernel) ?_
    exact aw_iret (by decide +kernel) rfl hF
  · have hF := hF.2 hc
    refine aw_iload_n (k' := 1) (by decide +kernel) rfl ?_
    refine aw_aload_n (k' := 0) (by decide +kernel) rfl ?_
    refine aw_alen (by decide +kernel) (by decide) (IA.at hr0) ?_
    show AW Γ l mX11_cell d b 7 [vR r0, vI x1] [vI (ln r0), vI x1] (stt g) K
    refine ax_icmp_ge (off := 9) (tgt := 16) (x' := wr x1) (y' := ln r0) (by decide +kernel) (by decide) rfl (wr_ln _) (fun hc => ?_) (fun hc => ?_)
    · have hF := hF.1 hc
      refine aw_iconst (n := 0) (by decide +kernel) ?_
      exact aw_iret (by decide +kernel) rfl hF
    · have hF := hF.2 hc
      refine aw_aload_n (k' := 0) (by decide +kernel) rfl ?_
      refine aw_iload_n (k' := 1) (by decide +kernel) rfl ?_
      refine ax_iald (i := wr x1) (by decide +kernel) (IA.at hr0) rfl hF.1 ?_
      replace hF := hF.2
      refine aw_goto (off := 4) (tgt := 17) (by decide +kernel) (by decide) ?_
      exact aw_iret (by decide +kernel) rfl hF

theorem c_cell {Γ : Cfg} {l : Launch} {d b : Nat} {g : GG} {K : Ou → HP → Prop} {r i : Int} (hr : IA r) (k : K (.inl (vI (cel g r i))) (stt g)) : Ct Γ l d b yX11_cell mX11_cell [vR r, vI i] (stt g) K := by
  unfold cel at k
  refine wpX11_cell hr ⟨fun h => ?_, fun h => ⟨fun h2 => ?_, fun h2 => ⟨⟨by omega, by omega⟩, ?_⟩⟩⟩
  · rw [if_neg (by omega)] at k; exact k
  · rw [if_neg (by omega)] at k; exact k
  · rw [if_pos ⟨by omega, by omega⟩] at k; exact k
set_option maxHeartbeats 1000000 in
theorem wpX11_put {Γ : Cfg} {l : Launch} {d b : Nat} {g : GG} {K : Ou → HP → Prop} {r0 : Int} (hr0 : IA r0) {x1 : Int} {x2 : Int} (hF : (wr x1 < 0 → K (.inl vU) (stt g)) ∧ (¬ (wr x1 < 0) → (ln r0 ≤ wr x1 → K (.inl vU) (stt g)) ∧ (¬ (ln r0 ≤ wr x1) → (0 ≤ wr x1 ∧ wr x1 < ln r0) ∧ (K (.inl vU) (stt (upd2 g r0 (wr x1) x2)))))) : Ct Γ l d b yX11_put mX11_put [vR r0, vI x1, vI x2] (stt g) K := by
  refine Ct.enter (L := [vR r0, vI x1, vI x2]) rfl rfl rfl (by decide +kernel) (by simp [oneSlot]) (Nat.le_of_ble_eq_true rfl) rfl ?_
  refine aw_iload_n (k' := 1) (by decide +kernel) rfl ?_
  refine ax_if_lt (off := 13) (tgt := 14) (x' := wr x1) (by decide +kernel) (by decide) rfl (fun hc => ?_) (fun hc => ?_)
  · have hF := hF.1 hc
    exact aw_vret (by decide +kernel) rfl hF
  · have hF := hF.2 hc
    refine aw_iload_n (k' := 1) (by decide +kernel) rfl ?_
    refine aw_aload_n (k' := 0) (by decide +kernel) rfl ?_
    refine aw_alen (by decide +kernel) (by decide) (IA.at hr0) ?_
    show AW Γ l mX11_put d b 7 [vR r0, vI x1, vI x2] [vI (ln r0), vI x1] (stt g) K
    refine ax_icmp_ge (off := 7) (tgt := 14) (x' := wr x1) (y' := ln r0) (by decide +kernel) (by decide) rfl (wr_ln _) (fun hc => ?_) (fun hc => ?_)
    · have hF := hF.1 hc
      exact aw_vret (by decide +kernel) rfl hF
    · have hF := hF.2 hc
      refine aw_aload_n (k' := 0) (by decide +kernel) rfl ?_
      refine aw_iload_n (k' := 1) (by decide +kernel) rfl ?_
      refine aw_iload_n (k' := 2) (by decide +kernel) rfl ?_
      refine ax_iast (i := wr x1) (by decide +kernel) (IA.at hr0) rfl hF.1 ?_
      show AW Γ l mX11_put d b 14 [vR r0, vI x1, vI x2] [] (stt (upd2 g r0 (wr x1) x2)) K
      replace hF := hF.2
      exact aw_vret (by decide +kernel) rfl hF

theorem c_put {Γ : Cfg} {l : Launch} {d b : Nat} {g : GG} {K : Ou → HP → Prop} {r i v : Int} (hr : IA r) (k : K (.inl vU) (stt (puc g r i v))) : Ct Γ l d b yX11_put mX11_put [vR r, vI i, vI v] (stt g) K := by
  unfold puc at k
  refine wpX11_put hr ⟨fun h => ?_, fun h => ⟨fun h2 => ?_, fun h2 => ⟨⟨by omega, by omega⟩, ?_⟩⟩⟩
  · rw [if_neg (by omega)] at k; exact k
  · rw [if_neg (by omega)] at k; exact k
  · rw [if_pos ⟨by omega, by omega⟩] at k; exact k
set_option maxHeartbeats 1000000 in
theorem wpX2_wordAt {Γ : Cfg} {l : Launch} {d b : Nat} {g : GG} {K : Ou → HP → Prop} {t : Int} (ht : HI t) {x1 : Int} {x2 : Int} (hF : K (.inl (vI (cel g (t + 1 + 0) ((x1 * 12) + x2)))) (stt g)) : Ct Γ l (d + 1) b yX2_wordAt mX2_wordAt [vR t, vI x1, vI x2] (stt g) K := by
  refine Ct.enter (L := [vR t, vI x1, vI x2]) rfl rfl rfl (by decide +kernel) (by simp [oneSlot]) (Nat.le_of_ble_eq_true rfl) rfl ?_
  refine aw_aload_n (k' := 0) (by decide +kernel) rfl ?_
  refine gfX2_9 rfl (by decide +kernel) (OB.at ht.ob (by decide)) ?_
  refine AW.topR (ht.r0) ?_
  refine aw_iload_n (k' := 1) (by decide +kernel) rfl ?_
  refine aw_bipush (n := 12) (by decide +kernel) (by decide +kernel) ?_
  refine aw_imul (by decide +kernel) ?_
  refine aw_iload_n (k' := 2) (by decide +kernel) rfl ?_
  refine aw_iadd (by decide +kernel) ?_
  refine aw_callSN (host := "HalfOaths") (y := yX11_cell) (M2 := mX11_cell) (as := [vR (t + 1 + 0), vI ((x1 * 12) + x2)]) (S := []) (d2 := d) (b2 := 0) (b3 := b) cwX11_cell mlX2_64 stX11_cell (by decide +kernel) rfl (Nat.le_refl _) (Nat.le_of_eq (Nat.zero_add _)) rfl rfl (by simp [oneSlot]) (Nat.le_of_ble_eq_true rfl) (c_cell (ht.a0) ?_)
  show AW Γ l mX2_wordAt (d + 1) b 13 [vR t, vI x1, vI x2] [vI (cel g (t + 1 + 0) ((x1 * 12) + x2))] (stt g) K
  exact aw_iret (by decide +kernel) rfl hF

theorem c_wordAt {Γ : Cfg} {l : Launch} {d b : Nat} {g : GG} {K : Ou → HP → Prop} {t p k9 : Int} (ht : HI t) (k : K (.inl (vI (cel g (t + 1 + 0) (p * 12 + k9)))) (stt g)) : Ct Γ l (d + 1) b yX2_wordAt mX2_wordAt [vR t, vI p, vI k9] (stt g) K := wpX2_wordAt ht k
set_option maxHeartbeats 1000000 in
theorem wpX2_has {Γ : Cfg} {l : Launch} {d b : Nat} {g : GG} {K : Ou → HP → Prop} {t : Int} (ht : HI t) {x1 : Int} (hF : (wr x1 < 0 → K (.inl (vI 0)) (stt g)) ∧ (¬ (wr x1 < 0) → (wr (g t 8) ≤ wr x1 → K (.inl (vI 0)) (stt g)) ∧ (¬ (wr (g t 8) ≤ wr x1) → K (.inl (vI 1)) (stt g)))) : Ct Γ l d b yX2_has mX2_has [vR t, vI x1] (stt g) K := by
  refine Ct.enter (L := [vR t, vI x1]) rfl rfl rfl (by decide +kernel) (by simp [oneSlot]) (Nat.le_of_ble_eq_true rfl) rfl ?_
  refine aw_iload_n (k' := 1) (by decide +kernel) rfl ?_
  refine ax_if_lt (off := 15) (tgt := 16) (x' := wr x1) (by decide +kernel) (by decide) rfl (fun hc => ?_) (fun hc => ?_)
  · have hF := hF.1 hc
    refine aw_iconst (n := 0) (by decide +kernel) ?_
    exact aw_zret (by decide +kernel) rfl rfl hF
  · have hF := hF.2 hc
    refine aw_iload_n (k' := 1) (by decide +kernel) rfl ?_
    refine aw_aload_n (k' := 0) (by decide +kernel) rfl ?_
    refine gfX2_36 rfl (by decide +kernel) (OB.at ht.ob (by decide)) ?_
    refine ax_icmp_ge (off := 7) (tgt := 16) (x' := wr x1) (y' := wr (g t 8)) (by decide +kernel) (by decide) rfl rfl (fun hc => ?_) (fun hc => ?_)
    · have hF := hF.1 hc
      refine aw_iconst (n := 0) (by decide +kernel) ?_
      exact aw_zret (by decide +kernel) rfl rfl hF
    · have hF := hF.2 hc
      refine aw_iconst (n := 1) (by decide +kernel) ?_
      refine aw_goto (off := 4) (tgt := 17) (by decide +kernel) (by decide) ?_
      exact aw_zret (by decide +kernel) rfl rfl hF

theorem c_has2 {Γ : Cfg} {l : Launch} {d b : Nat} {g : GG} {K : Ou → HP → Prop} {t p : Int} (ht : HI t) (k1 : (0 ≤ wr p ∧ wr p < wr (g t 8)) → K (.inl (vI 1)) (stt g)) (k2 : ¬ (0 ≤ wr p ∧ wr p < wr (g t 8)) → K (.inl (vI 0)) (stt g)) : Ct Γ l d b yX2_has mX2_has [vR t, vI p] (stt g) K :=
  wpX2_has ht ⟨fun h => k2 (by omega), fun h => ⟨fun h2 => k2 (by omega), fun h2 => k1 (by omega)⟩⟩
set_option maxHeartbeats 1000000 in
theorem wpX12_people {Γ : Cfg} {l : Launch} {d b : Nat} {g : GG} {K : Ou → HP → Prop}  (hF : K (.inl (vI (g 172 0))) (stt g)) : Ct Γ l d b yX12_people mX12_people [vR 171] (stt g) K := by
  refine Ct.enter (L := [vR 171]) rfl rfl rfl (by decide +kernel) (by simp [oneSlot]) (Nat.le_of_ble_eq_true rfl) rfl ?_
  refine aw_aload_n (k' := 0) (by decide +kernel) rfl ?_
  refine gfX12_13 rfl (by decide +kernel) (OB.at (ci := 10) (show shp 171 = (20, 0) by decide +kernel) (by decide)) ?_
  refine AW.topR (show RC 171 1 = 172 by decide +kernel) ?_
  refine aw_iconst (n := 0) (by decide +kernel) ?_
  refine ax_iald (i := 0) (by decide +kernel) (isA_lit (show shp 172 = (0, 2184) by decide +kernel) (by decide)) (by decide +kernel) ⟨by decide, by decide⟩ ?_
  exact aw_iret (by decide +kernel) rfl hF

theorem c_people {Γ : Cfg} {l : Launch} {d b : Nat} {g : GG} {K : Ou → HP → Prop} (k : K (.inl (vI (g 172 0))) (stt g)) : Ct Γ l d b yX12_people mX12_people [vR 171] (stt g) K := wpX12_people k
set_option maxHeartbeats 1000000 in
theorem wpX12_personAt {Γ : Cfg} {l : Launch} {d b : Nat} {g : GG} {K : Ou → HP → Prop} {x0 : Int} {x1 : Int} (hF : K (.inl (vI ((12 + (29 * x0)) + x1))) (stt g)) : Ct Γ l d b yX12_personAt mX12_personAt [vI x0, vI x1] (stt g) K := by
  refine Ct.enter (L := [vI x0, vI x1]) rfl rfl rfl (by decide +kernel) (by simp [oneSlot]) (Nat.le_of_ble_eq_true rfl) rfl ?_
  refine aw_bipush (n := 12) (by decide +kernel) (by decide +kernel) ?_
  refine aw_bipush (n := 29) (by decide +kernel) (by decide +kernel) ?_
  refine aw_iload_n (k' := 0) (by decide +kernel) rfl ?_
  refine aw_imul (by decide +kernel) ?_
  refine aw_iadd (by decide +kernel) ?_
  refine aw_iload_n (k' := 1) (by decide +kernel) rfl ?_
  refine aw_iadd (by decide +kernel) ?_
  exact aw_iret (by decide +kernel) rfl hF

theorem c_personAt {Γ : Cfg} {l : Launch} {d b : Nat} {g : GG} {K : Ou → HP → Prop} {p w : Int} (k : K (.inl (vI (12 + 29 * p + w))) (stt g)) : Ct Γ l d b yX12_personAt mX12_personAt [vI p, vI w] (stt g) K := wpX12_personAt k
set_option maxHeartbeats 1000000 in
theorem wpX12_of {Γ : Cfg} {l : Launch} {d b : Nat} {g : GG} {K : Ou → HP → Prop} {x1 : Int} {x2 : Int} (hF : (0 ≤ wr (12 + 29 * x1 + x2) ∧ wr (12 + 29 * x1 + x2) < 2184) ∧ (K (.inl (vI (g 172 (wr (12 + 29 * x1 + x2))))) (stt g))) : Ct Γ l (d + 1) b yX12_of mX12_of [vR 171, vI x1, vI x2] (stt g) K := by
  refine Ct.enter (L := [vR 171, vI x1, vI x2]) rfl rfl rfl (by decide +kernel) (by simp [oneSlot]) (Nat.le_of_ble_eq_true rfl) rfl ?_
  refine aw_aload_n (k' := 0) (by decide +kernel) rfl ?_
  refine gfX12_13 rfl (by decide +kernel) (OB.at (ci := 10) (show shp 171 = (20, 0) by decide +kernel) (by decide)) ?_
  refine AW.topR (show RC 171 1 = 172 by decide +kernel) ?_
  refine aw_iload_n (k' := 1) (by decide +kernel) rfl ?_
  refine aw_iload_n (k' := 2) (by decide +kernel) rfl ?_
  refine aw_callS (y := yX12_personAt) (M2 := mX12_personAt) (as := [vI x1, vI x2]) (S := [vR 172]) (d2 := d) (b2 := 0) (b3 := b) cwX12_personAt mlX12_80 stX12_personAt (by decide +kernel) rfl (Nat.le_refl _) (Nat.le_of_eq (Nat.zero_add _)) rfl rfl (by simp [oneSlot]) (Nat.le_of_ble_eq_true rfl) (c_personAt ?_)
  show AW Γ l mX12_of (d + 1) b 9 [vR 171, vI x1, vI x2] [vI (12 + 29 * x1 + x2), vR 172] (stt g) K
  refine ax_iald (i := wr (12 + 29 * x1 + x2)) (by decide +kernel) (isA_lit (show shp 172 = (0, 2184) by decide +kernel) (by decide)) rfl hF.1 ?_
  replace hF := hF.2
  exact aw_iret (by decide +kernel) rfl hF

theorem c_of {Γ : Cfg} {l : Launch} {d b : Nat} {g : GG} {K : Ou → HP → Prop} {p w : Int} (h : okP p w) (k : K (.inl (vI (ofP g p w))) (stt g)) : Ct Γ l (d + 1) b yX12_of mX12_of [vR 171, vI p, vI w] (stt g) K := wpX12_of ⟨h, k⟩
set_option maxHeartbeats 1000000 in
theorem wpX12_kindOf {Γ : Cfg} {l : Launch} {d b : Nat} {g : GG} {K : Ou → HP → Prop} {x1 : Int} {x2 : Int} (hF : (okP x1 (5 + (2 * x2))) ∧ (K (.inl (vI (ofP g x1 (5 + (2 * x2))))) (stt g))) : Ct Γ l (d + 2) b yX12_kindOf mX12_kindOf [vR 171, vI x1, vI x2] (stt g) K := by
  refine Ct.enter (L := [vR 171, vI x1, vI x2]) rfl rfl rfl (by decide +kernel) (by simp [oneSlot]) (Nat.le_of_ble_eq_true rfl) rfl ?_
  refine aw_aload_n (k' := 0) (by decide +kernel) rfl ?_
  refine aw_iload_n (k' := 1) (by decide +kernel) rfl ?_
  refine aw_iconst (n := 5) (by decide +kernel) ?_
  refine aw_iconst (n := 2) (by decide +kernel) ?_
  refine aw_iload_n (k' := 2) (by decide +kernel) rfl ?_
  refine aw_imul (by decide +kernel) ?_
  refine aw_iadd (by decide +kernel) ?_
  refine aw_callV (y := yX12_of) (M2 := mX12_of) (as := [vI x1, vI (5 + (2 * x2))]) (S := []) (t := 171) (d2 := (d + 1)) (b2 := 0) (b3 := b) cwX12_of mlX12_84 imX12_of seX12_of (by decide +kernel) rfl (ci := 10) rfl (OB.at (ci := 10) (show shp 171 = (20, 0) by decide +kernel) (by decide)) (Nat.le_refl _) (Nat.le_of_eq (Nat.zero_add _)) rfl rfl (by simp [oneSlot]) (Nat.le_of_ble_eq_true rfl) (c_of hF.1 ?_)
  show AW Γ l mX12_kindOf (d + 2) b 10 [vR 171, vI x1, vI x2] [vI (ofP g x1 (5 + (2 * x2)))] (stt g) K
  replace hF := hF.2
  exact aw_iret (by decide +kernel) rfl hF

theorem c_kindOf {Γ : Cfg} {l : Launch} {d b : Nat} {g : GG} {K : Ou → HP → Prop} {p w : Int} (h : okP p (5 + 2 * w)) (k : K (.inl (vI (ofP g p (5 + 2 * w)))) (stt g)) : Ct Γ l (d + 2) b yX12_kindOf mX12_kindOf [vR 171, vI p, vI w] (stt g) K := wpX12_kindOf ⟨h, k⟩
set_option maxHeartbeats 1000000 in
theorem wpX12_numberOf {Γ : Cfg} {l : Launch} {d b : Nat} {g : GG} {K : Ou → HP → Prop} {x1 : Int} {x2 : Int} (hF : (okP x1 ((5 + (2 * x2)) + 1)) ∧ (K (.inl (vI (ofP g x1 ((5 + (2 * x2)) + 1)))) (stt g))) : Ct Γ l (d + 2) b yX12_numberOf mX12_numberOf [vR 171, vI x1, vI x2] (stt g) K := by
  refine Ct.enter (L := [vR 171, vI x1, vI x2]) rfl rfl rfl (by decide +kernel) (by simp [oneSlot]) (Nat.le_of_ble_eq_true rfl) rfl ?_
  refine aw_aload_n (k' := 0) (by decide +kernel) rfl ?_
  refine aw_iload_n (k' := 1) (by decide +kernel) rfl ?_
  refine aw_iconst (n := 5) (by decide +kernel) ?_
  refine aw_iconst (n := 2) (by decide +kernel) ?_
  refine aw_iload_n (k' := 2) (by decide +kernel) rfl ?_
  refine aw_imul (by decide +kernel) ?_
  refine aw_iadd (by decide +kernel) ?_
  refine aw_iconst (n := 1) (by decide +kernel) ?_
  refine aw_iadd (by decide +kernel) ?_
  refine aw_callV (y := yX12_of) (M2 := mX12_of) (as := [vI x1, vI ((5 + (2 * x2)) + 1)]) (S := []) (t := 171) (d2 := (d + 1)) (b2 := 0) (b3 := b) cwX12_of mlX12_84 imX12_of seX12_of (by decide +kernel) rfl (ci := 10) rfl (OB.at (ci := 10) (show shp 171 = (20, 0) by decide +kernel) (by decide)) (Nat.le_refl _) (Nat.le_of_eq (Nat.zero_add _)) rfl rfl (by simp [oneSlot]) (Nat.le_of_ble_eq_true rfl) (c_of hF.1 ?_)
  show AW Γ l mX12_numberOf (d + 2) b 12 [vR 171, vI x1, vI x2] [vI (ofP g x1 ((5 + (2 * x2)) + 1))] (stt g) K
  replace hF := hF.2
  exact aw_iret (by decide +kernel) rfl hF

theorem c_numberOf {Γ : Cfg} {l : Launch} {d b : Nat} {g : GG} {K : Ou → HP → Prop} {p w : Int} (h : okP p (5 + 2 * w + 1)) (k : K (.inl (vI (ofP g p (5 + 2 * w + 1)))) (stt g)) : Ct Γ l (d + 2) b yX12_numberOf mX12_numberOf [vR 171, vI p, vI w] (stt g) K := wpX12_numberOf ⟨h, k⟩
set_option maxHeartbeats 1000000 in
theorem wpX12_in {Γ : Cfg} {l : Launch} {d b : Nat} {g : GG} {K : Ou → HP → Prop} {x0 : Int} {x1 : Int} {x2 : Int} (hF : (wr x0 < wr x1 → K (.inl (vI 0)) (stt g)) ∧ (¬ (wr x0 < wr x1) → (wr x2 < wr x0 → K (.inl (vI 0)) (stt g)) ∧ (¬ (wr x2 < wr x0) → K (.inl (vI 1)) (stt g)))) : Ct Γ l d b yX12_in mX12_in [vI x0, vI x1, vI x2] (stt g) K := by
  refine Ct.enter (L := [vI x0, vI x1, vI x2]) rfl rfl rfl (by decide +kernel) (by simp [oneSlot]) (Nat.le_of_ble_eq_true rfl) rfl ?_
  refine aw_iload_n (k' := 0) (by decide +kernel) rfl ?_
  refine aw_iload_n (k' := 1) (by decide +kernel) rfl ?_
  refine ax_icmp_lt (off := 12) (tgt := 14) (x' := wr x0) (y' := wr x1) (by decide +kernel) (by decide) rfl rfl (fun hc => ?_) (fun hc => ?_)
  · have hF := hF.1 hc
    refine aw_iconst (n := 0) (by decide +kernel) ?_
    exact aw_zret (by decide +kernel) rfl rfl hF
  · have hF := hF.2 hc
    refine aw_iload_n (k' := 0) (by decide +kernel) rfl ?_
    refine aw_iload_n (k' := 2) (by decide +kernel) rfl ?_
    refine ax_icmp_gt (off := 7) (tgt := 14) (x' := wr x0) (y' := wr x2) (by decide +kernel) (by decide) rfl rfl (fun hc => ?_) (fun hc => ?_)
    · have hF := hF.1 hc
      refine aw_iconst (n := 0) (by decide +kernel) ?_
      exact aw_zret (by decide +kernel) rfl rfl hF
    · have hF := hF.2 hc
      refine aw_iconst (n := 1) (by decide +kernel) ?_
      refine aw_goto (off := 4) (tgt := 15) (by decide +kernel) (by decide) ?_
      exact aw_zret (by decide +kernel) rfl rfl hF

theorem c_in {Γ : Cfg} {l : Launch} {d b : Nat} {g : GG} {K : Ou → HP → Prop} {x y z x' y' z' : Int} (e1 : wr x = x') (e2 : wr y = y') (e3 : wr z = z') (k1 : (y' ≤ x' ∧ x' ≤ z') → K (.inl (vI 1)) (stt g)) (k2 : ¬ (y' ≤ x' ∧ x' ≤ z') → K (.inl (vI 0)) (stt g)) : Ct Γ l d b yX12_in mX12_in [vI x, vI y, vI z] (stt g) K := by
  subst e1 e2 e3
  exact wpX12_in ⟨fun h => k2 (by omega), fun h => ⟨fun h2 => k2 (by omega), fun h2 => k1 (by omega)⟩⟩
set_option maxHeartbeats 1000000 in
theorem wpX12_has {Γ : Cfg} {l : Launch} {d b : Nat} {g : GG} {K : Ou → HP → Prop} {x0 : Int} {x1 : Int} (hF : (¬ wr (iAnd (iShr x0 x1) 1) = 1 → K (.inl (vI 0)) (stt g)) ∧ (¬ (¬ wr (iAnd (iShr x0 x1) 1) = 1) → K (.inl (vI 1)) (stt g))) : Ct Γ l d b yX12_has mX12_has [vI x0, vI x1] (stt g) K := by
  refine Ct.enter (L := [vI x0, vI x1]) rfl rfl rfl (by decide +kernel) (by simp [oneSlot]) (Nat.le_of_ble_eq_true rfl) rfl ?_
  refine aw_iload_n (k' := 0) (by decide +kernel) rfl ?_
  refine aw_iload_n (k' := 1) (by decide +kernel) rfl ?_
  refine aw_ishr (by decide +kernel) ?_
  refine aw_iconst (n := 1) (by decide +kernel) ?_
  refine aw_iand (by decide +kernel) ?_
  refine aw_iconst (n := 1) (by decide +kernel) ?_
  refine ax_icmp_ne (off := 7) (tgt := 13) (x' := wr (iAnd (iShr x0 x1) 1)) (y' := 1) (by decide +kernel) (by decide) rfl (by decide +kernel) (fun hc => ?_) (fun hc => ?_)
  · have hF := hF.1 hc
    refine aw_iconst (n := 0) (by decide +kernel) ?_
    exact aw_zret (by decide +kernel) rfl rfl hF
  · have hF := hF.2 hc
    refine aw_iconst (n := 1) (by decide +kernel) ?_
    refine aw_goto (off := 4) (tgt := 14) (by decide +kernel) (by decide) ?_
    exact aw_zret (by decide +kernel) rfl rfl hF

theorem c_has12 {Γ : Cfg} {l : Launch} {d b : Nat} {g : GG} {K : Ou → HP → Prop} {x y : Int} (k1 : wr (iAnd (iShr x y) 1) = 1 → K (.inl (vI 1)) (stt g)) (k2 : ¬ wr (iAnd (iShr x y) 1) = 1 → K (.inl (vI 0)) (stt g)) : Ct Γ l d b yX12_has mX12_has [vI x, vI y] (stt g) K :=
  wpX12_has ⟨fun h => k2 h, fun h => k1 (Classical.not_not.mp h)⟩
set_option maxHeartbeats 1000000 in
theorem wpX12_noPerson {Γ : Cfg} {l : Launch} {d b : Nat} {g : GG} {K : Ou → HP → Prop} {x1 : Int} (hF : (0 ≤ wr x1 ∧ wr x1 ≤ wr ((g 172 0) - 1) → K (.inl (vI 0)) (stt g)) ∧ (¬ (0 ≤ wr x1 ∧ wr x1 ≤ wr ((g 172 0) - 1)) → K (.inl (vI 1)) (stt g))) : Ct Γ l (d + 1) b yX12_noPerson mX12_noPerson [vR 171, vI x1] (stt g) K := by
  refine Ct.enter (L := [vR 171, vI x1]) rfl rfl rfl (by decide +kernel) (by simp [oneSlot]) (Nat.le_of_ble_eq_true rfl) rfl ?_
  refine aw_iload_n (k' := 1) (by decide +kernel) rfl ?_
  refine aw_iconst (n := 0) (by decide +kernel) ?_
  refine aw_aload_n (k' := 0) (by decide +kernel) rfl ?_
  refine aw_callV (y := yX12_people) (M2 := mX12_people) (as := []) (S := [vI 0, vI x1]) (t := 171) (d2 := d) (b2 := 0) (b3 := b) cwX12_people mlX12_87 imX12_people seX12_people (by decide +kernel) rfl (ci := 10) rfl (OB.at (ci := 10) (show shp 171 = (20, 0) by decide +kernel) (by decide)) (Nat.le_refl _) (Nat.le_of_eq (Nat.zero_add _)) rfl rfl (by simp [oneSlot]) (Nat.le_of_ble_eq_true rfl) (c_people ?_)
  show AW Γ l mX12_noPerson (d + 1) b 6 [vR 171, vI x1] [vI (g 172 0), vI 0, vI x1] (stt g) K
  refine aw_iconst (n := 1) (by decide +kernel) ?_
  refine aw_isub (by decide +kernel) ?_
  refine aw_callS (y := yX12_in) (M2 := mX12_in) (as := [vI x1, vI 0, vI ((g 172 0) - 1)]) (S := []) (d2 := d) (b2 := 0) (b3 := b) cwX12_in mlX12_91 stX12_in (by decide +kernel) rfl (Nat.le_refl _) (Nat.le_of_eq (Nat.zero_add _)) rfl rfl (by simp [oneSlot]) (Nat.le_of_ble_eq_true rfl) (c_in (x' := wr x1) (y' := 0) (z' := wr ((g 172 0) - 1)) rfl (by decide +kernel) rfl (fun hc => ?_) (fun hc => ?_))
  · have hF := hF.1 hc
    show AW Γ l mX12_noPerson (d + 1) b 11 [vR 171, vI x1] [vI 1] (stt g) K
    refine ax_if_ne (off := 7) (tgt := 18) (x' := 1) (by decide +kernel) (by decide) (by decide +kernel) (fun hc => ?_) (fun hc => absurd (by decide) hc)
    refine aw_iconst (n := 0) (by decide +kernel) ?_
    exact aw_zret (by decide +kernel) rfl rfl hF
  · have hF := hF.2 hc
    show AW Γ l mX12_noPerson (d + 1) b 11 [vR 171, vI x1] [vI 0] (stt g) K
    refine ax_if_ne (off := 7) (tgt := 18) (x' := 0) (by decide +kernel) (by decide) (by decide +kernel) (fun hc => absurd hc (by decide)) (fun hc => ?_)
    refine aw_iconst (n := 1) (by decide +kernel) ?_
    refine aw_goto (off := 4) (tgt := 19) (by decide +kernel) (by decide) ?_
    exact aw_zret (by decide +kernel) rfl rfl hF

theorem c_noPerson {Γ : Cfg} {l : Launch} {d b : Nat} {g : GG} {K : Ou → HP → Prop} {p : Int} (k1 : (¬ (0 ≤ wr p ∧ wr p ≤ wr (g 172 0 - 1))) → K (.inl (vI 1)) (stt g)) (k2 : ¬ (¬ (0 ≤ wr p ∧ wr p ≤ wr (g 172 0 - 1))) → K (.inl (vI 0)) (stt g)) : Ct Γ l (d + 1) b yX12_noPerson mX12_noPerson [vR 171, vI p] (stt g) K :=
  wpX12_noPerson ⟨fun h => k2 (fun q => q h), fun h => k1 h⟩
set_option maxHeartbeats 1000000 in
theorem wpX12_throwsIf {Γ : Cfg} {l : Launch} {d b : Nat} {g : GG} {K : Ou → HP → Prop} {x1 : Int} {x2 : Int} (hF : (wr x1 = 0 → (wr x1 = 0 ∨ wr x1 = 1) ∧ K (.inl (vI x1)) (stt g)) ∧ (¬ (wr x1 = 0) → (wr x1 = 0 ∨ wr x1 = 1) ∧ K (.inl (vI x1)) (stt (upd2 g 171 0 x2)))) : Ct Γ l d b yX12_throwsIf mX12_throwsIf [vR 171, vI x1, vI x2] (stt g) K := by
  refine Ct.enter (L := [vR 171, vI x1, vI x2]) rfl rfl rfl (by decide +kernel) (by simp [oneSlot]) (Nat.le_of_ble_eq_true rfl) rfl ?_
  refine aw_iload_n (k' := 1) (by decide +kernel) rfl ?_
  refine ax_if_eq (off := 8) (tgt := 9) (x' := wr x1) (by decide +kernel) (by decide) rfl (fun hc => ?_) (fun hc => ?_)
  · have hF := hF.1 hc
    refine aw_iload_n (k' := 1) (by decide +kernel) rfl ?_
    exact aw_zret (by decide +kernel) rfl (nar_z hF.1) hF.2
  · have hF := hF.2 hc
    refine aw_aload_n (k' := 0) (by decide +kernel) rfl ?_
    refine aw_iload_n (k' := 2) (by decide +kernel) rfl ?_
    refine pfX12_3 rfl (by decide +kernel) (OB.at (ci := 10) (show shp 171 = (20, 0) by decide +kernel) (by decide)) ?_
    show AW Γ l mX12_throwsIf d b 9 [vR 171, vI x1, vI x2] [] (stt (upd2 g 171 0 x2)) K
    refine aw_iload_n (k' := 1) (by decide +kernel) rfl ?_
    exact aw_zret (by decide +kernel) rfl (nar_z hF.1) hF.2

theorem c_throwsIf1 {Γ : Cfg} {l : Launch} {d b : Nat} {g : GG} {K : Ou → HP → Prop} {c : Int} (k : K (.inl (vI 1)) (stt (upd2 g 171 0 c))) : Ct Γ l d b yX12_throwsIf mX12_throwsIf [vR 171, vI 1, vI c] (stt g) K :=
  wpX12_throwsIf ⟨fun h => absurd h (by decide +kernel), fun _ => ⟨Or.inr (by decide +kernel), k⟩⟩
theorem c_throwsIf0 {Γ : Cfg} {l : Launch} {d b : Nat} {g : GG} {K : Ou → HP → Prop} {c : Int} (k : K (.inl (vI 0)) (stt g)) : Ct Γ l d b yX12_throwsIf mX12_throwsIf [vR 171, vI 0, vI c] (stt g) K :=
  wpX12_throwsIf ⟨fun h => ⟨Or.inl h, k⟩, fun h => absurd (by decide +kernel) h⟩
set_option maxHeartbeats 1000000 in
theorem wpJ6_bitCount_0f7a4 {Γ : Cfg} {l : Launch} {d b : Nat} {g : GG} {K : Ou → HP → Prop} {x0 : Int} (hF : K (.inl (vI (iAnd (((iAnd (((iAnd (x0 - (iAnd (iUsh x0 1) 1431655765)) 858993459) + (iAnd (iUsh (x0 - (iAnd (iUsh x0 1) 1431655765)) 2) 858993459)) + (iUsh ((iAnd (x0 - (iAnd (iUsh x0 1) 1431655765)) 858993459) + (iAnd (iUsh (x0 - (iAnd (iUsh x0 1) 1431655765)) 2) 858993459)) 4)) 252645135) + (iUsh (iAnd (((iAnd (x0 - (iAnd (iUsh x0 1) 1431655765)) 858993459) + (iAnd (iUsh (x0 - (iAnd (iUsh x0 1) 1431655765)) 2) 858993459)) + (iUsh ((iAnd (x0 - (iAnd (iUsh x0 1) 1431655765)) 858993459) + (iAnd (iUsh (x0 - (iAnd (iUsh x0 1) 1431655765)) 2) 858993459)) 4)) 252645135) 8)) + (iUsh ((iAnd (((iAnd (x0 - (iAnd (iUsh x0 1) 1431655765)) 858993459) + (iAnd (iUsh (x0 - (iAnd (iUsh x0 1) 1431655765)) 2) 858993459)) + (iUsh ((iAnd (x0 - (iAnd (iUsh x0 1) 1431655765)) 858993459) + (iAnd (iUsh (x0 - (iAnd (iUsh x0 1) 1431655765)) 2) 858993459)) 4)) 252645135) + (iUsh (iAnd (((iAnd (x0 - (iAnd (iUsh x0 1) 1431655765)) 858993459) + (iAnd (iUsh (x0 - (iAnd (iUsh x0 1) 1431655765)) 2) 858993459)) + (iUsh ((iAnd (x0 - (iAnd (iUsh x0 1) 1431655765)) 858993459) + (iAnd (iUsh (x0 - (iAnd (iUsh x0 1) 1431655765)) 2) 858993459)) 4)) 252645135) 8)) 16)) 63))) (stt g)) : Ct Γ l d b yJ6_bitCount_0f7a4 mJ6_bitCount_0f7a4 [vI x0] (stt g) K := by
  refine Ct.enter (L := [vI x0]) rfl rfl rfl (by decide +kernel) (by simp [oneSlot]) (Nat.le_of_ble_eq_true rfl) rfl ?_
  refine aw_iload_n (k' := 0) (by decide +kernel) rfl ?_
  refine aw_iload_n (k' := 0) (by decide +kernel) rfl ?_
  refine aw_iconst (n := 1) (by decide +kernel) ?_
  refine aw_iushr (by decide +kernel) ?_
  refine aw_ldcw (idx := 265) (z := 1431655765) (by decide +kernel) (tm2 235 (by decide +kernel) (by decide +kernel)) ?_
  refine aw_iand (by decide +kernel) ?_
  refine aw_isub (by decide +kernel) ?_
  refine aw_istore_n (k' := 0) (by decide +kernel) (by decide) ?_
  show AW Γ l mJ6_bitCount_0f7a4 d b 10 [vI (x0 - (iAnd (iUsh x0 1) 1431655765))] [] (stt g) K
  refine aw_iload_n (k' := 0) (by decide +kernel) rfl ?_
  refine aw_ldcw (idx := 266) (z := 858993459) (by decide +kernel) (tm2 236 (by decide +kernel) (by decide +kernel)) ?_
  refine aw_iand (by decide +kernel) ?_
  refine aw_iload_n (k' := 0) (by decide +kernel) rfl ?_
  refine aw_iconst (n := 2) (by decide +kernel) ?_
  refine aw_iushr (by decide +kernel) ?_
  refine aw_ldcw (idx := 266) (z := 858993459) (by decide +kernel) (tm2 236 (by decide +kernel) (by decide +kernel)) ?_
  refine aw_iand (by decide +kernel) ?_
  refine aw_iadd (by decide +kernel) ?_
  refine aw_istore_n (k' := 0) (by decide +kernel) (by decide) ?_
  show AW Γ l mJ6_bitCount_0f7a4 d b 24 [vI ((iAnd (x0 - (iAnd (iUsh x0 1) 1431655765)) 858993459) + (iAnd (iUsh (x0 - (iAnd (iUsh x0 1) 1431655765)) 2) 858993459))] [] (stt g) K
  refine aw_iload_n (k' := 0) (by decide +kernel) rfl ?_
  refine aw_iload_n (k' := 0) (by decide +kernel) rfl ?_
  refine aw_iconst (n := 4) (by decide +kernel) ?_
  refine aw_iushr (by decide +kernel) ?_
  refine aw_iadd (by decide +kernel) ?_
  refine aw_ldcw (idx := 267) (z := 252645135) (by decide +kernel) (tm2 237 (by decide +kernel) (by decide +kernel)) ?_
  refine aw_iand (by decide +kernel) ?_
  refine aw_istore_n (k' := 0) (by decide +kernel) (by decide) ?_
  show AW Γ l mJ6_bitCount_0f7a4 d b 34 [vI (iAnd (((iAnd (x0 - (iAnd (iUsh x0 1) 1431655765)) 858993459) + (iAnd (iUsh (x0 - (iAnd (iUsh x0 1) 1431655765)) 2) 858993459)) + (iUsh ((iAnd (x0 - (iAnd (iUsh x0 1) 1431655765)) 858993459) + (iAnd (iUsh (x0 - (iAnd (iUsh x0 1) 1431655765)) 2) 858993459)) 4)) 252645135)] [] (stt g) K
  refine aw_iload_n (k' := 0) (by decide +kernel) rfl ?_
  refine aw_iload_n (k' := 0) (by decide +kernel) rfl ?_
  refine aw_bipush (n := 8) (by decide +kernel) (by decide +kernel) ?_
  refine aw_iushr (by decide +kernel) ?_
  refine aw_iadd (by decide +kernel) ?_
  refine aw_istore_n (k' := 0) (by decide +kernel) (by decide) ?_
  show AW Γ l mJ6_bitCount_0f7a4 d b 41 [vI ((iAnd (((iAnd (x0 - (iAnd (iUsh x0 1) 1431655765)) 858993459) + (iAnd (iUsh (x0 - (iAnd (iUsh x0 1) 1431655765)) 2) 858993459)) + (iUsh ((iAnd (x0 - (iAnd (iUsh x0 1) 1431655765)) 858993459) + (iAnd (iUsh (x0 - (iAnd (iUsh x0 1) 1431655765)) 2) 858993459)) 4)) 252645135) + (iUsh (iAnd (((iAnd (x0 - (iAnd (iUsh x0 1) 1431655765)) 858993459) + (iAnd (iUsh (x0 - (iAnd (iUsh x0 1) 1431655765)) 2) 858993459)) + (iUsh ((iAnd (x0 - (iAnd (iUsh x0 1) 1431655765)) 858993459) + (iAnd (iUsh (x0 - (iAnd (iUsh x0 1) 1431655765)) 2) 858993459)) 4)) 252645135) 8))] [] (stt g) K
  refine aw_iload_n (k' := 0) (by decide +kernel) rfl ?_
  refine aw_iload_n (k' := 0) (by decide +kernel) rfl ?_
  refine aw_bipush (n := 16) (by decide +kernel) (by decide +kernel) ?_
  refine aw_iushr (by decide +kernel) ?_
  refine aw_iadd (by decide +kernel) ?_
  refine aw_istore_n (k' := 0) (by decide +kernel) (by decide) ?_
  show AW Γ l mJ6_bitCount_0f7a4 d b 48 [vI (((iAnd (((iAnd (x0 - (iAnd (iUsh x0 1) 1431655765)) 858993459) + (iAnd (iUsh (x0 - (iAnd (iUsh x0 1) 1431655765)) 2) 858993459)) + (iUsh ((iAnd (x0 - (iAnd (iUsh x0 1) 1431655765)) 858993459) + (iAnd (iUsh (x0 - (iAnd (iUsh x0 1) 1431655765)) 2) 858993459)) 4)) 252645135) + (iUsh (iAnd (((iAnd (x0 - (iAnd (iUsh x0 1) 1431655765)) 858993459) + (iAnd (iUsh (x0 - (iAnd (iUsh x0 1) 1431655765)) 2) 858993459)) + (iUsh ((iAnd (x0 - (iAnd (iUsh x0 1) 1431655765)) 858993459) + (iAnd (iUsh (x0 - (iAnd (iUsh x0 1) 1431655765)) 2) 858993459)) 4)) 252645135) 8)) + (iUsh ((iAnd (((iAnd (x0 - (iAnd (iUsh x0 1) 1431655765)) 858993459) + (iAnd (iUsh (x0 - (iAnd (iUsh x0 1) 1431655765)) 2) 858993459)) + (iUsh ((iAnd (x0 - (iAnd (iUsh x0 1) 1431655765)) 858993459) + (iAnd (iUsh (x0 - (iAnd (iUsh x0 1) 1431655765)) 2) 858993459)) 4)) 252645135) + (iUsh (iAnd (((iAnd (x0 - (iAnd (iUsh x0 1) 1431655765)) 858993459) + (iAnd (iUsh (x0 - (iAnd (iUsh x0 1) 1431655765)) 2) 858993459)) + (iUsh ((iAnd (x0 - (iAnd (iUsh x0 1) 1431655765)) 858993459) + (iAnd (iUsh (x0 - (iAnd (iUsh x0 1) 1431655765)) 2) 858993459)) 4)) 252645135) 8)) 16))] [] (stt g) K
  refine aw_iload_n (k' := 0) (by decide +kernel) rfl ?_
  refine aw_bipush (n := 63) (by decide +kernel) (by decide +kernel) ?_
  refine aw_iand (by decide +kernel) ?_
  exact aw_iret (by decide +kernel) rfl hF

def iBC (x : Int) : Int :=
  let a := x - iAnd (iUsh x 1) 1431655765
  let b := iAnd a 858993459 + iAnd (iUsh a 2) 858993459
  let c := iAnd (b + iUsh b 4) 252645135
  let d := c + iUsh c 8
  iAnd (d + iUsh d 16) 63
theorem c_bitCount {Γ : Cfg} {l : Launch} {d b : Nat} {g : GG} {K : Ou → HP → Prop} {x : Int} (k : K (.inl (vI (iBC x))) (stt g)) : Ct Γ l d b yJ6_bitCount_0f7a4 mJ6_bitCount_0f7a4 [vI x] (stt g) K := wpJ6_bitCount_0f7a4 k
set_option maxHeartbeats 1000000 in
theorem wpJ6_numberOfTrailingZeros_0f7a4 {Γ : Cfg} {l : Launch} {d b : Nat} {g : GG} {K : Ou → HP → Prop} {x0 : Int} (hF : (0 < wr (iAnd (iXor x0 (-1)) (x0 - 1)) → (wr (iAnd (iXor x0 (-1)) (x0 - 1)) ≤ 65536 → (wr (iAnd (iXor x0 (-1)) (x0 - 1)) ≤ 256 → (wr (iAnd (iXor x0 (-1)) (x0 - 1)) ≤ 16 → (wr (iAnd (iXor x0 (-1)) (x0 - 1)) ≤ 4 → K (.inl (vI (1 + (iUsh (iAnd (iXor x0 (-1)) (x0 - 1)) 1)))) (stt g)) ∧ (¬ (wr (iAnd (iXor x0 (-1)) (x0 - 1)) ≤ 4) → K (.inl (vI (3 + (iUsh (iUsh (iAnd (iXor x0 (-1)) (x0 - 1)) 2) 1)))) (stt g))) ∧ (¬ (wr (iAnd (iXor x0 (-1)) (x0 - 1)) ≤ 16) → (wr (iUsh (iAnd (iXor x0 (-1)) (x0 - 1)) 4) ≤ 4 → K (.inl (vI (5 + (iUsh (iUsh (iAnd (iXor x0 (-1)) (x0 - 1)) 4) 1)))) (stt g)) ∧ (¬ (wr (iUsh (iAnd (iXor x0 (-1)) (x0 - 1)) 4) ≤ 4) → K (.inl (vI (7 + (iUsh (iUsh (iUsh (iAnd (iXor x0 (-1)) (x0 - 1)) 4) 2) 1)))) (stt g)))) ∧ (¬ (wr (iAnd (iXor x0 (-1)) (x0 - 1)) ≤ 256) → (wr (iUsh (iAnd (iXor x0 (-1)) (x0 - 1)) 8) ≤ 16 → (wr (iUsh (iAnd (iXor x0 (-1)) (x0 - 1)) 8) ≤ 4 → K (.inl (vI (9 + (iUsh (iUsh (iAnd (iXor x0 (-1)) (x0 - 1)) 8) 1)))) (stt g)) ∧ (¬ (wr (iUsh (iAnd (iXor x0 (-1)) (x0 - 1)) 8) ≤ 4) → K (.inl (vI (11 + (iUsh (iUsh (iUsh (iAnd (iXor x0 (-1)) (x0 - 1)) 8) 2) 1)))) (stt g))) ∧ (¬ (wr (iUsh (iAnd (iXor x0 (-1)) (x0 - 1)) 8) ≤ 16) → (wr (iUsh (iUsh (iAnd (iXor x0 (-1)) (x0 - 1)) 8) 4) ≤ 4 → K (.inl (vI (13 + (iUsh (iUsh (iUsh (iAnd (iXor x0 (-1)) (x0 - 1)) 8) 4) 1)))) (stt g)) ∧ (¬ (wr (iUsh (iUsh (iAnd (iXor x0 (-1)) (x0 - 1)) 8) 4) ≤ 4) → K (.inl (vI (15 + (iUsh (iUsh (iUsh (iUsh (iAnd (iXor x0 (-1)) (x0 - 1)) 8) 4) 2) 1)))) (stt g))))) ∧ (¬ (wr (iAnd (iXor x0 (-1)) (x0 - 1)) ≤ 65536) → (wr (iUsh (iAnd (iXor x0 (-1)) (x0 - 1)) 16) ≤ 256 → (wr (iUsh (iAnd (iXor x0 (-1)) (x0 - 1)) 16) ≤ 16 → (wr (iUsh (iAnd (iXor x0 (-1)) (x0 - 1)) 16) ≤ 4 → K (.inl (vI (17 + (iUsh (iUsh (iAnd (iXor x0 (-1)) (x0 - 1)) 16) 1)))) (stt g)) ∧ (¬ (wr (iUsh (iAnd (iXor x0 (-1)) (x0 - 1)) 16) ≤ 4) → K (.inl (vI (19 + (iUsh (iUsh (iUsh (iAnd (iXor x0 (-1)) (x0 - 1)) 16) 2) 1)))) (stt g))) ∧ (¬ (wr (iUsh (iAnd (iXor x0 (-1)) (x0 - 1)) 16) ≤ 16) → (wr (iUsh (iUsh (iAnd (iXor x0 (-1)) (x0 - 1)) 16) 4) ≤ 4 → K (.inl (vI (21 + (iUsh (iUsh (iUsh (iAnd (iXor x0 (-1)) (x0 - 1)) 16) 4) 1)))) (stt g)) ∧ (¬ (wr (iUsh (iUsh (iAnd (iXor x0 (-1)) (x0 - 1)) 16) 4) ≤ 4) → K (.inl (vI (23 + (iUsh (iUsh (iUsh (iUsh (iAnd (iXor x0 (-1)) (x0 - 1)) 16) 4) 2) 1)))) (stt g)))) ∧ (¬ (wr (iUsh (iAnd (iXor x0 (-1)) (x0 - 1)) 16) ≤ 256) → (wr (iUsh (iUsh (iAnd (iXor x0 (-1)) (x0 - 1)) 16) 8) ≤ 16 → (wr (iUsh (iUsh (iAnd (iXor x0 (-1)) (x0 - 1)) 16) 8) ≤ 4 → K (.inl (vI (25 + (iUsh (iUsh (iUsh (iAnd (iXor x0 (-1)) (x0 - 1)) 16) 8) 1)))) (stt g)) ∧ (¬ (wr (iUsh (iUsh (iAnd (iXor x0 (-1)) (x0 - 1)) 16) 8) ≤ 4) → K (.inl (vI (27 + (iUsh (iUsh (iUsh (iUsh (iAnd (iXor x0 (-1)) (x0 - 1)) 16) 8) 2) 1)))) (stt g))) ∧ (¬ (wr (iUsh (iUsh (iAnd (iXor x0 (-1)) (x0 - 1)) 16) 8) ≤ 16) → (wr (iUsh (iUsh (iUsh (iAnd (iXor x0 (-1)) (x0 - 1)) 16) 8) 4) ≤ 4 → K (.inl (vI (29 + (iUsh (iUsh (iUsh (iUsh (iAnd (iXor x0 (-1)) (x0 - 1)) 16) 8) 4) 1)))) (stt g)) ∧ (¬ (wr (iUsh (iUsh (iUsh (iAnd (iXor x0 (-1)) (x0 - 1)) 16) 8) 4) ≤ 4) → K (.inl (vI (31 + (iUsh (iUsh (iUsh (iUsh (iUsh (iAnd (iXor x0 (-1)) (x0 - 1)) 16) 8) 4) 2) 1)))) (stt g)))))) ∧ (¬ (0 < wr (iAnd (iXor x0 (-1)) (x0 - 1))) → K (.inl (vI (iAnd (iAnd (iXor x0 (-1)) (x0 - 1)) 32))) (stt g))) : Ct Γ l d b yJ6_numberOfTrailingZeros_0f7a4 mJ6_numberOfTrailingZeros_0f7a4 [vI x0] (stt g) K := by
  refine Ct.enter (L := [vI x0, vU]) rfl rfl rfl (by decide +kernel) (by simp [oneSlot]) (Nat.le_of_ble_eq_true rfl) rfl ?_
  refine aw_iload_n (k' := 0) (by decide +kernel) rfl ?_
  refine aw_iconst (n := -1) (by decide +kernel) ?_
  refine aw_ixor (by decide +kernel) ?_
  refine aw_iload_n (k' := 0) (by decide +kernel) rfl ?_
  refine aw_iconst (n := 1) (by decide +kernel) ?_
  refine aw_isub (by decide +kernel) ?_
  refine aw_iand (by decide +kernel) ?_
  refine aw_istore_n (k' := 0) (by decide +kernel) (by decide) ?_
  show AW Γ l mJ6_numberOfTrailingZeros_0f7a4 d b 8 [vI (iAnd (iXor x0 (-1)) (x0 - 1)), vU] [] (stt g) K
  refine aw_iload_n (k' := 0) (by decide +kernel) rfl ?_
  refine ax_if_gt (off := 8) (tgt := 17) (x' := wr (iAnd (iXor x0 (-1)) (x0 - 1))) (by decide +kernel) (by decide) rfl (fun hc => ?_) (fun hc => ?_)
  · have hF := hF.1 hc
    refine aw_iconst (n := 1) (by decide +kernel) ?_
    refine aw_istore_n (k' := 1) (by decide +kernel) (by decide) ?_
    show AW Γ l mJ6_numberOfTrailingZeros_0f7a4 d b 19 [vI (iAnd (iXor x0 (-1)) (x0 - 1)), vI 1] [] (stt g) K
    refine aw_iload_n (k' := 0) (by decide +kernel) rfl ?_
    refine aw_ldcw (idx := 264) (z := 65536) (by decide +kernel) (tm8 172 (by decide +kernel) (by decide +kernel)) ?_
    refine ax_icmp_le (off := 11) (tgt := 34) (x' := wr (iAnd (iXor x0 (-1)) (x0 - 1))) (y' := 65536) (by decide +kernel) (by decide) rfl (by decide +kernel) (fun hc => ?_) (fun hc => ?_)
    · have hF := hF.1 hc
      refine aw_iload_n (k' := 0) (by decide +kernel) rfl ?_
      refine aw_sipush (n := 256) (by decide +kernel) (by decide +kernel) ?_
      refine ax_icmp_le (off := 11) (tgt := 49) (x' := wr (iAnd (iXor x0 (-1)) (x0 - 1))) (y' := 256) (by decide +kernel) (by decide) rfl (by decide +kernel) (fun hc => ?_) (fun hc => ?_)
      · have hF := hF.1 hc
        refine aw_iload_n (k' := 0) (by decide +kernel) rfl ?_
        refine aw_bipush (n := 16) (by decide +kernel) (by decide +kernel) ?_
        refine ax_icmp_le (off := 10) (tgt := 62) (x' := wr (iAnd (iXor x0 (-1)) (x0 - 1))) (y' := 16) (by decide +kernel) (by decide) rfl (by decide +kernel) (fun hc => ?_) (fun hc => ?_)
        · have hF := hF.1 hc
          refine aw_iload_n (k' := 0) (by decide +kernel) rfl ?_
          refine aw_iconst (n := 4) (by decide +kernel) ?_
          refine ax_icmp_le (off := 10) (tgt := 74) (x' := wr (iAnd (iXor x0 (-1)) (x0 - 1))) (y' := 4) (by decide +kernel) (by decide) rfl (by decide +kernel) (fun hc => ?_) (fun hc => ?_)
          · have hF := hF.1 hc
            refine aw_iload_n (k' := 1) (by decide +kernel) rfl ?_
            refine aw_iload_n (k' := 0) (by decide +kernel) rfl ?_
            refine aw_iconst (n := 1) (by decide +kernel) ?_
            refine aw_iushr (by decide +kernel) ?_
            refine aw_iadd (by decide +kernel) ?_
            exact aw_iret (by decide +kernel) rfl hF
          · have hF := hF.2 hc
            refine aw_iinc (i := 1) (n := 2) (by decide +kernel) rfl (by decide) ?_
            show AW Γ l mJ6_numberOfTrailingZeros_0f7a4 d b 70 [vI (iAnd (iXor x0 (-1)) (x0 - 1)), vI 3] [] (stt g) K
            refine aw_iload_n (k' := 0) (by decide +kernel) rfl ?_
            refine aw_iconst (n := 2) (by decide +kernel) ?_
            refine aw_iushr (by decide +kernel) ?_
            refine aw_istore_n (k' := 0) (by decide +kernel) (by decide) ?_
            show AW Γ l mJ6_numberOfTrailingZeros_0f7a4 d b 74 [vI (iUsh (iAnd (iXor x0 (-1)) (x0 - 1)) 2), vI 3] [] (stt g) K
            refine aw_iload_n (k' := 1) (by decide +kernel) rfl ?_
            refine aw_iload_n (k' := 0) (by decide +kernel) rfl ?_
            refine aw_iconst (n := 1) (by decide +kernel) ?_
            refine aw_iushr (by decide +kernel) ?_
            refine aw_iadd (by decide +kernel) ?_
            exact aw_iret (by decide +kernel) rfl hF
        · have hF := hF.2 hc
          refine aw_iinc (i := 1) (n := 4) (by decide +kernel) rfl (by decide) ?_
          show AW Γ l mJ6_numberOfTrailingZeros_0f7a4 d b 58 [vI (iAnd (iXor x0 (-1)) (x0 - 1)), vI 5] [] (stt g) K
          refine aw_iload_n (k' := 0) (by decide +kernel) rfl ?_
          refine aw_iconst (n := 4) (by decide +kernel) ?_
          refine aw_iushr (by decide +kernel) ?_
          refine aw_istore_n (k' := 0) (by decide +kernel) (by decide) ?_
          show AW Γ l mJ6_numberOfTrailingZeros_0f7a4 d b 62 [vI (iUsh (iAnd (iXor x0 (-1)) (x0 - 1)) 4), vI 5] [] (stt g) K
          refine aw_iload_n (k' := 0) (by decide +kernel) rfl ?_
          refine aw_iconst (n := 4) (by decide +kernel) ?_
          refine ax_icmp_le (off := 10) (tgt := 74) (x' := wr (iUsh (iAnd (iXor x0 (-1)) (x0 - 1)) 4)) (y' := 4) (by decide +kernel) (by decide) rfl (by decide +kernel) (fun hc => ?_) (fun hc => ?_)
          · have hF := hF.1 hc
            refine aw_iload_n (k' := 1) (by decide +kernel) rfl ?_
            refine aw_iload_n (k' := 0) (by decide +kernel) rfl ?_
            refine aw_iconst (n := 1) (by decide +kernel) ?_
            refine aw_iushr (by decide +kernel) ?_
            refine aw_iadd (by decide +kernel) ?_
            exact aw_iret (by decide +kernel) rfl hF
          · have hF := hF.2 hc
            refine aw_iinc (i := 1) (n := 2) (by decide +kernel) rfl (by decide) ?_
            show AW Γ l mJ6_numberOfTrailingZeros_0f7a4 d b 70 [vI (iUsh (iAnd (iXor x0 (-1)) (x0 - 1)) 4), vI 7] [] (stt g) K
            refine aw_iload_n (k' := 0) (by decide +kernel) rfl ?_
            refine aw_iconst (n := 2) (by decide +kernel) ?_
            refine aw_iushr (by decide +kernel) ?_
            refine aw_istore_n (k' := 0) (by decide +kernel) (by decide) ?_
            show AW Γ l mJ6_numberOfTrailingZeros_0f7a4 d b 74 [vI (iUsh (iUsh (iAnd (iXor x0 (-1)) (x0 - 1)) 4) 2), vI 7] [] (stt g) K
            refine aw_iload_n (k' := 1) (by decide +kernel) rfl ?_
            refine aw_iload_n (k' := 0) (by decide +kernel) rfl ?_
            refine aw_iconst (n := 1) (by decide +kernel) ?_
            refine aw_iushr (by decide +kernel) ?_
            refine aw_iadd (by decide +kernel) ?_
            exact aw_iret (by decide +kernel) rfl hF
      · have hF := hF.2 hc
        refine aw_iinc (i := 1) (n := 8) (by decide +kernel) rfl (by decide) ?_
        show AW Γ l mJ6_numberOfTrailingZeros_0f7a4 d b 44 [vI (iAnd (iXor x0 (-1)) (x0 - 1)), vI 9] [] (stt g) K
        refine aw_iload_n (k' := 0) (by decide +kernel) rfl ?_
        refine aw_bipush (n := 8) (by decide +kernel) (by decide +kernel) ?_
        refine aw_iushr (by decide +kernel) ?_
        refine aw_istore_n (k' := 0) (by decide +kernel) (by decide) ?_
        show AW Γ l mJ6_numberOfTrailingZeros_0f7a4 d b 49 [vI (iUsh (iAnd (iXor x0 (-1)) (x0 - 1)) 8), vI 9] [] (stt g) K
        refine aw_iload_n (k' := 0) (by decide +kernel) rfl ?_
        refine aw_bipush (n := 16) (by decide +kernel) (by decide +kernel) ?_
        refine ax_icmp_le (off := 10) (tgt := 62) (x' := wr (iUsh (iAnd (iXor x0 (-1)) (x0 - 1)) 8)) (y' := 16) (by decide +kernel) (by decide) rfl (by decide +kernel) (fun hc => ?_) (fun hc => ?_)
        · have hF := hF.1 hc
          refine aw_iload_n (k' := 0) (by decide +kernel) rfl ?_
          refine aw_iconst (n := 4) (by decide +kernel) ?_
          refine ax_icmp_le (off := 10) (tgt := 74) (x' := wr (iUsh (iAnd (iXor x0 (-1)) (x0 - 1)) 8)) (y' := 4) (by decide +kernel) (by decide) rfl (by decide +kernel) (fun hc => ?_) (fun hc => ?_)
          · have hF := hF.1 hc
            refine aw_iload_n (k' := 1) (by decide +kernel) rfl ?_
            refine aw_iload_n (k' := 0) (by decide +kernel) rfl ?_
            refine aw_iconst (n := 1) (by decide +kernel) ?_
            refine aw_iushr (by decide +kernel) ?_
            refine aw_iadd (by decide +kernel) ?_
            exact aw_iret (by decide +kernel) rfl hF
          · have hF := hF.2 hc
            refine aw_iinc (i := 1) (n := 2) (by decide +kernel) rfl (by decide) ?_
            show AW Γ l mJ6_numberOfTrailingZeros_0f7a4 d b 70 [vI (iUsh (iAnd (iXor x0 (-1)) (x0 - 1)) 8), vI 11] [] (stt g) K
            refine aw_iload_n (k' := 0) (by decide +kernel) rfl ?_
            refine aw_iconst (n := 2) (by decide +kernel) ?_
            refine aw_iushr (by decide +kernel) ?_
            refine aw_istore_n (k' := 0) (by decide +kernel) (by decide) ?_
            show AW Γ l mJ6_numberOfTrailingZeros_0f7a4 d b 74 [vI (iUsh (iUsh (iAnd (iXor x0 (-1)) (x0 - 1)) 8) 2), vI 11] [] (stt g) K
            refine aw_iload_n (k' := 1) (by decide +kernel) rfl ?_
            refine aw_iload_n (k' := 0) (by decide +kernel) rfl ?_
            refine aw_iconst (n := 1) (by decide +kernel) ?_
            refine aw_iushr (by decide +kernel) ?_
            refine aw_iadd (by decide +kernel) ?_
            exact aw_iret (by decide +kernel) rfl hF
        · have hF := hF.2 hc
          refine aw_iinc (i := 1) (n := 4) (by decide +kernel) rfl (by decide) ?_
          show AW Γ l mJ6_numberOfTrailingZeros_0f7a4 d b 58 [vI (iUsh (iAnd (iXor x0 (-1)) (x0 - 1)) 8), vI 13] [] (stt g) K
          refine aw_iload_n (k' := 0) (by decide +kernel) rfl ?_
          refine aw_iconst (n := 4) (by decide +kernel) ?_
          refine aw_iushr (by decide +kernel) ?_
          refine aw_istore_n (k' := 0) (by decide +kernel) (by decide) ?_
          show AW Γ l mJ6_numberOfTrailingZeros_0f7a4 d b 62 [vI (iUsh (iUsh (iAnd (iXor x0 (-1)) (x0 - 1)) 8) 4), vI 13] [] (stt g) K
          refine aw_iload_n (k' := 0) (by decide +kernel) rfl ?_
          refine aw_iconst (n := 4) (by decide +kernel) ?_
          refine ax_icmp_le (off := 10) (tgt := 74) (x' := wr (iUsh (iUsh (iAnd (iXor x0 (-1)) (x0 - 1)) 8) 4)) (y' := 4) (by decide +kernel) (by decide) rfl (by decide +kernel) (fun hc => ?_) (fun hc => ?_)
          · have hF := hF.1 hc
            refine aw_iload_n (k' := 1) (by decide +kernel) rfl ?_
            refine aw_iload_n (k' := 0) (by decide +kernel) rfl ?_
            refine aw_iconst (n := 1) (by decide +kernel) ?_
            refine aw_iushr (by decide +kernel) ?_
            refine aw_iadd (by decide +kernel) ?_
            exact aw_iret (by decide +kernel) rfl hF
          · have hF := hF.2 hc
            refine aw_iinc (i := 1) (n := 2) (by decide +kernel) rfl (by decide) ?_
            show AW Γ l mJ6_numberOfTrailingZeros_0f7a4 d b 70 [vI (iUsh (iUsh (iAnd (iXor x0 (-1)) (x0 - 1)) 8) 4), vI 15] [] (stt g) K
            refine aw_iload_n (k' := 0) (by decide +kernel) rfl ?_
            refine aw_iconst (n := 2) (by decide +kernel) ?_
            refine aw_iushr (by decide +kernel) ?_
            refine aw_istore_n (k' := 0) (by decide +kernel) (by decide) ?_
            show AW Γ l mJ6_numberOfTrailingZeros_0f7a4 d b 74 [vI (iUsh (iUsh (iUsh (iAnd (iXor x0 (-1)) (x0 - 1)) 8) 4) 2), vI 15] [] (stt g) K
            refine aw_iload_n (k' := 1) (by decide +kernel) rfl ?_
            refine aw_iload_n (k' := 0) (by decide +kernel) rfl ?_
            refine aw_iconst (n := 1) (by decide +kernel) ?_
            refine aw_iushr (by decide +kernel) ?_
            refine aw_iadd (by decide +kernel) ?_
            exact aw_iret (by decide +kernel) rfl hF
    · have hF := hF.2 hc
      refine aw_iinc (i := 1) (n := 16) (by decide +kernel) rfl (by decide) ?_
      show AW Γ l mJ6_numberOfTrailingZeros_0f7a4 d b 29 [vI (iAnd (iXor x0 (-1)) (x0 - 1)), vI 17] [] (stt g) K
      refine aw_iload_n (k' := 0) (by decide +kernel) rfl ?_
      refine aw_bipush (n := 16) (by decide +kernel) (by decide +kernel) ?_
      refine aw_iushr (by decide +kernel) ?_
      refine aw_istore_n (k' := 0) (by decide +kernel) (by decide) ?_
      show AW Γ l mJ6_numberOfTrailingZeros_0f7a4 d b 34 [vI (iUsh (iAnd (iXor x0 (-1)) (x0 - 1)) 16), vI 17] [] (stt g) K
      refine aw_iload_n (k' := 0) (by decide +kernel) rfl ?_
      refine aw_sipush (n := 256) (by decide +kernel) (by decide +kernel) ?_
      refine ax_icmp_le (off := 11) (tgt := 49) (x' := wr (iUsh (iAnd (iXor x0 (-1)) (x0 - 1)) 16)) (y' := 256) (by decide +kernel) (by decide) rfl (by decide +kernel) (fun hc => ?_) (fun hc => ?_)
      · have hF := hF.1 hc
        refine aw_iload_n (k' := 0) (by decide +kernel) rfl ?_
        refine aw_bipush (n := 16) (by decide +kernel) (by decide +kernel) ?_
        refine ax_icmp_le (off := 10) (tgt := 62) (x' := wr (iUsh (iAnd (iXor x0 (-1)) (x0 - 1)) 16)) (y' := 16) (by decide +kernel) (by decide) rfl (by decide +kernel) (fun hc => ?_) (fun hc => ?_)
        · have hF := hF.1 hc
          refine aw_iload_n (k' := 0) (by decide +kernel) rfl ?_
          refine aw_iconst (n := 4) (by decide +kernel) ?_
          refine ax_icmp_le (off := 10) (tgt := 74) (x' := wr (iUsh (iAnd (iXor x0 (-1)) (x0 - 1)) 16)) (y' := 4) (by decide +kernel) (by decide) rfl (by decide +kernel) (fun hc => ?_) (fun hc => ?_)
          · have hF := hF.1 hc
            refine aw_iload_n (k' := 1) (by decide +kernel) rfl ?_
            refine aw_iload_n (k' := 0) (by decide +kernel) rfl ?_
            refine aw_iconst (n := 1) (by decide +kernel) ?_
            refine aw_iushr (by decide +kernel) ?_
            refine aw_iadd (by decide +kernel) ?_
            exact aw_iret (by decide +kernel) rfl hF
          · have hF := hF.2 hc
            refine aw_iinc (i := 1) (n := 2) (by decide +kernel) rfl (by decide) ?_
            show AW Γ l mJ6_numberOfTrailingZeros_0f7a4 d b 70 [vI (iUsh (iAnd (iXor x0 (-1)) (x0 - 1)) 16), vI 19] [] (stt g) K
            refine aw_iload_n (k' := 0) (by decide +kernel) rfl ?_
            refine aw_iconst (n := 2) (by decide +kernel) ?_
            refine aw_iushr (by decide +kernel) ?_
            refine aw_istore_n (k' := 0) (by decide +kernel) (by decide) ?_
            show AW Γ l mJ6_numberOfTrailingZeros_0f7a4 d b 74 [vI (iUsh (iUsh (iAnd (iXor x0 (-1)) (x0 - 1)) 16) 2), vI 19] [] (stt g) K
            refine aw_iload_n (k' := 1) (by decide +kernel) rfl ?_
            refine aw_iload_n (k' := 0) (by decide +kernel) rfl ?_
            refine aw_iconst (n := 1) (by decide +kernel) ?_
            refine aw_iushr (by decide +kernel) ?_
            refine aw_iadd (by decide +kernel) ?_
            exact aw_iret (by decide +kernel) rfl hF
        · have hF := hF.2 hc
          refine aw_iinc (i := 1) (n := 4) (by decide +kernel) rfl (by decide) ?_
          show AW Γ l mJ6_numberOfTrailingZeros_0f7a4 d b 58 [vI (iUsh (iAnd (iXor x0 (-1)) (x0 - 1)) 16), vI 21] [] (stt g) K
          refine aw_iload_n (k' := 0) (by decide +kernel) rfl ?_
          refine aw_iconst (n := 4) (by decide +kernel) ?_
          refine aw_iushr (by decide +kernel) ?_
          refine aw_istore_n (k' := 0) (by decide +kernel) (by decide) ?_
          show AW Γ l mJ6_numberOfTrailingZeros_0f7a4 d b 62 [vI (iUsh (iUsh (iAnd (iXor x0 (-1)) (x0 - 1)) 16) 4), vI 21] [] (stt g) K
          refine aw_iload_n (k' := 0) (by decide +kernel) rfl ?_
          refine aw_iconst (n := 4) (by decide +kernel) ?_
          refine ax_icmp_le (off := 10) (tgt := 74) (x' := wr (iUsh (iUsh (iAnd (iXor x0 (-1)) (x0 - 1)) 16) 4)) (y' := 4) (by decide +kernel) (by decide) rfl (by decide +kernel) (fun hc => ?_) (fun hc => ?_)
          · have hF := hF.1 hc
            refine aw_iload_n (k' := 1) (by decide +kernel) rfl ?_
            refine aw_iload_n (k' := 0) (by decide +kernel) rfl ?_
            refine aw_iconst (n := 1) (by decide +kernel) ?_
            refine aw_iushr (by decide +kernel) ?_
            refine aw_iadd (by decide +kernel) ?_
            exact aw_iret (by decide +kernel) rfl hF
          · have hF := hF.2 hc
            refine aw_iinc (i := 1) (n := 2) (by decide +kernel) rfl (by decide) ?_
            show AW Γ l mJ6_numberOfTrailingZeros_0f7a4 d b 70 [vI (iUsh (iUsh (iAnd (iXor x0 (-1)) (x0 - 1)) 16) 4), vI 23] [] (stt g) K
            refine aw_iload_n (k' := 0) (by decide +kernel) rfl ?_
            refine aw_iconst (n := 2) (by decide +kernel) ?_
            refine aw_iushr (by decide +kernel) ?_
            refine aw_istore_n (k' := 0) (by decide +kernel) (by decide) ?_
            show AW Γ l mJ6_numberOfTrailingZeros_0f7a4 d b 74 [vI (iUsh (iUsh (iUsh (iAnd (iXor x0 (-1)) (x0 - 1)) 16) 4) 2), vI 23] [] (stt g) K
            refine aw_iload_n (k' := 1) (by decide +kernel) rfl ?_
            refine aw_iload_n (k' := 0) (by decide +kernel) rfl ?_
            refine aw_iconst (n := 1) (by decide +kernel) ?_
            refine aw_iushr (by decide +kernel) ?_
            refine aw_iadd (by decide +kernel) ?_
            exact aw_iret (by decide +kernel) rfl hF
      · have hF := hF.2 hc
        refine aw_iinc (i := 1) (n := 8) (by decide +kernel) rfl (by decide) ?_
        show AW Γ l mJ6_numberOfTrailingZeros_0f7a4 d b 44 [vI (iUsh (iAnd (iXor x0 (-1)) (x0 - 1)) 16), vI 25] [] (stt g) K
        refine aw_iload_n (k' := 0) (by decide +kernel) rfl ?_
        refine aw_bipush (n := 8) (by decide +kernel) (by decide +kernel) ?_
        refine aw_iushr (by decide +kernel) ?_
        refine aw_istore_n (k' := 0) (by decide +kernel) (by decide) ?_
        show AW Γ l mJ6_numberOfTrailingZeros_0f7a4 d b 49 [vI (iUsh (iUsh (iAnd (iXor x0 (-1)) (x0 - 1)) 16) 8), vI 25] [] (stt g) K
        refine aw_iload_n (k' := 0) (by decide +kernel) rfl ?_
        refine aw_bipush (n := 16) (by decide +kernel) (by decide +kernel) ?_
        refine ax_icmp_le (off := 10) (tgt := 62) (x' := wr (iUsh (iUsh (iAnd (iXor x0 (-1)) (x0 - 1)) 16) 8)) (y' := 16) (by decide +kernel) (by decide) rfl (by decide +kernel) (fun hc => ?_) (fun hc => ?_)
        · have hF := hF.1 hc
          refine aw_iload_n (k' := 0) (by decide +kernel) rfl ?_
          refine aw_iconst (n := 4) (by decide +kernel) ?_
          refine ax_icmp_le (off := 10) (tgt := 74) (x' := wr (iUsh (iUsh (iAnd (iXor x0 (-1)) (x0 - 1)) 16) 8)) (y' := 4) (by decide +kernel) (by decide) rfl (by decide +kernel) (fun hc => ?_) (fun hc => ?_)
          · have hF := hF.1 hc
            refine aw_iload_n (k' := 1) (by decide +kernel) rfl ?_
            refine aw_iload_n (k' := 0) (by decide +kernel) rfl ?_
            refine aw_iconst (n := 1) (by decide +kernel) ?_
            refine aw_iushr (by decide +kernel) ?_
            refine aw_iadd (by decide +kernel) ?_
            exact aw_iret (by decide +kernel) rfl hF
          · have hF := hF.2 hc
            refine aw_iinc (i := 1) (n := 2) (by decide +kernel) rfl (by decide) ?_
            show AW Γ l mJ6_numberOfTrailingZeros_0f7a4 d b 70 [vI (iUsh (iUsh (iAnd (iXor x0 (-1)) (x0 - 1)) 16) 8), vI 27] [] (stt g) K
            refine aw_iload_n (k' := 0) (by decide +kernel) rfl ?_
            refine aw_iconst (n := 2) (by decide +kernel) ?_
            refine aw_iushr (by decide +kernel) ?_
            refine aw_istore_n (k' := 0) (by decide +kernel) (by decide) ?_
            show AW Γ l mJ6_numberOfTrailingZeros_0f7a4 d b 74 [vI (iUsh (iUsh (iUsh (iAnd (iXor x0 (-1)) (x0 - 1)) 16) 8) 2), vI 27] [] (stt g) K
            refine aw_iload_n (k' := 1) (by decide +kernel) rfl ?_
            refine aw_iload_n (k' := 0) (by decide +kernel) rfl ?_
            refine aw_iconst (n := 1) (by decide +kernel) ?_
            refine aw_iushr (by decide +kernel) ?_
            refine aw_iadd (by decide +kernel) ?_
            exact aw_iret (by decide +kernel) rfl hF
        · have hF := hF.2 hc
          refine aw_iinc (i := 1) (n := 4) (by decide +kernel) rfl (by decide) ?_
          show AW Γ l mJ6_numberOfTrailingZeros_0f7a4 d b 58 [vI (iUsh (iUsh (iAnd (iXor x0 (-1)) (x0 - 1)) 16) 8), vI 29] [] (stt g) K
          refine aw_iload_n (k' := 0) (by decide +kernel) rfl ?_
          refine aw_iconst (n := 4) (by decide +kernel) ?_
          refine aw_iushr (by decide +kernel) ?_
          refine aw_istore_n (k' := 0) (by decide +kernel) (by decide) ?_
          show AW Γ l mJ6_numberOfTrailingZeros_0f7a4 d b 62 [vI (iUsh (iUsh (iUsh (iAnd (iXor x0 (-1)) (x0 - 1)) 16) 8) 4), vI 29] [] (stt g) K
          refine aw_iload_n (k' := 0) (by decide +kernel) rfl ?_
          refine aw_iconst (n := 4) (by decide +kernel) ?_
          refine ax_icmp_le (off := 10) (tgt := 74) (x' := wr (iUsh (iUsh (iUsh (iAnd (iXor x0 (-1)) (x0 - 1)) 16) 8) 4)) (y' := 4) (by decide +kernel) (by decide) rfl (by decide +kernel) (fun hc => ?_) (fun hc => ?_)
          · have hF := hF.1 hc
            refine aw_iload_n (k' := 1) (by decide +kernel) rfl ?_
            refine aw_iload_n (k' := 0) (by decide +kernel) rfl ?_
            refine aw_iconst (n := 1) (by decide +kernel) ?_
            refine aw_iushr (by decide +kernel) ?_
            refine aw_iadd (by decide +kernel) ?_
            exact aw_iret (by decide +kernel) rfl hF
          · have hF := hF.2 hc
            refine aw_iinc (i := 1) (n := 2) (by decide +kernel) rfl (by decide) ?_
            show AW Γ l mJ6_numberOfTrailingZeros_0f7a4 d b 70 [vI (iUsh (iUsh (iUsh (iAnd (iXor x0 (-1)) (x0 - 1)) 16) 8) 4), vI 31] [] (stt g) K
            refine aw_iload_n (k' := 0) (by decide +kernel) rfl ?_
            refine aw_iconst (n := 2) (by decide +kernel) ?_
            refine aw_iushr (by decide +kernel) ?_
            refine aw_istore_n (k' := 0) (by decide +kernel) (by decide) ?_
            show AW Γ l mJ6_numberOfTrailingZeros_0f7a4 d b 74 [vI (iUsh (iUsh (iUsh (iUsh (iAnd (iXor x0 (-1)) (x0 - 1)) 16) 8) 4) 2), vI 31] [] (stt g) K
            refine aw_iload_n (k' := 1) (by decide +kernel) rfl ?_
            refine aw_iload_n (k' := 0) (by decide +kernel) rfl ?_
            refine aw_iconst (n := 1) (by decide +kernel) ?_
            refine aw_iushr (by decide +kernel) ?_
            refine aw_iadd (by decide +kernel) ?_
            exact aw_iret (by decide +kernel) rfl hF
  · have hF := hF.2 hc
    refine aw_iload_n (k' := 0) (by decide +kernel) rfl ?_
    refine aw_bipush (n := 32) (by decide +kernel) (by decide +kernel) ?_
    refine aw_iand (by decide +kernel) ?_
    exact aw_iret (by decide +kernel) rfl hF

def nz1 (q : Int × Int) (th sh : Int) : Int × Int := if wr q.2 ≤ th then q else (q.1 + sh, iUsh q.2 sh)
def iNTZ (x : Int) : Int :=
  let i := iAnd (iXor x (-1)) (x - 1)
  if 0 < wr i then (nz1 (nz1 (nz1 (nz1 (1, i) 65536 16) 256 8) 16 4) 4 2).1 + iUsh (nz1 (nz1 (nz1 (nz1 (1, i) 65536 16) 256 8) 16 4) 4 2).2 1 else iAnd i 32
theorem c_ntz {Γ : Cfg} {l : Launch} {d b : Nat} {g : GG} {K : Ou → HP → Prop} {x : Int} (k : K (.inl (vI (iNTZ x))) (stt g)) : Ct Γ l d b yJ6_numberOfTrailingZeros_0f7a4 mJ6_numberOfTrailingZeros_0f7a4 [vI x] (stt g) K := by
  apply wpJ6_numberOfTrailingZeros_0f7a4
  unfold iNTZ at k
  generalize iAnd (iXor x (-1)) (x - 1) = i at k ⊢
  refine ⟨fun h => ?_, fun h => ?_⟩
  · rw [if_pos h] at k
    refine ⟨fun h1 => ⟨fun h2 => ⟨fun h3 => ⟨fun h4 => ?_, fun h4 => ?_⟩, fun h3 => ⟨fun h4 => ?_, fun h4 => ?_⟩⟩, fun h2 => ⟨fun h3 => ⟨fun h4 => ?_, fun h4 => ?_⟩, fun h3 => ⟨fun h4 => ?_, fun h4 => ?_⟩⟩⟩, fun h1 => ⟨fun h2 => ⟨fun h3 => ⟨fun h4 => ?_, fun h4 => ?_⟩, fun h3 => ⟨fun h4 => ?_, fun h4 => ?_⟩⟩, fun h2 => ⟨fun h3 => ⟨fun h4 => ?_, fun h4 => ?_⟩, fun h3 => ⟨fun h4 => ?_, fun h4 => ?_⟩⟩⟩⟩ <;> (simp only [nz1, h1, h2, h3, h4, if_true, if_false] at k; exact k)
  · rw [if_neg h] at k
    exact k
