/-! THE LAW'S OWN METHODS THAT CATCH, walked (genL.py) -/
abbrev mL_hills : MT := (RL, cL_hills, 3, some .int, "hills", [(0, 8, 11, 13), (0, 8, 14, 15)])
theorem cwL_hills {M : MT} {i : Nat} : callWH M i yL_hills mL_hills 2 := ⟨(tb_mem 565 (by decide +kernel) (by decide +kernel)), (tb_mem 0 (by decide +kernel) (by decide +kernel)), ⟨(by decide +kernel), (by decide +kernel)⟩, (by decide +kernel), by decide⟩
theorem stL_hills : Cond.static yL_hills ∈ gw := (tb_mem 564 (by decide +kernel) (by decide +kernel))
set_option maxHeartbeats 1000000 in
theorem w_hills {Γ : Cfg} {l : Launch} {d2 b : Nat} {g : GG} {K : Ou → HP → Prop} {A : Int → Int → GG → Prop} (hb : 1 ≤ b) (hr : ∀ c v g1, A c v g1 → 0 ≤ c ∧ c ≤ ([eIA, eUO] : List String).length) (hC : Ct Γ l d2 1 yX11_hills mX11_hills [vR 1] (stt g) (CK [eIA, eUO] A)) (k0 : ∀ v g1, A 0 v g1 → K (.inl (vI 0)) (stt (upd2 g1 190 0 (wr v)))) (k1 : ∀ c v g1, A c v g1 → 0 < c → K (.inl (vI c)) (stt g1)) : CtH Γ l (d2 + 1) b yL_hills mL_hills [vR 1, vR 190] (stt g) K := by
  refine CtH.enter (L := [vR 1, vR 190, vU]) rfl rfl (by decide +kernel) (by simp [oneSlot]) (Nat.le_of_ble_eq_true rfl) rfl ?_
  refine aw_aload_n (k' := 1) (by decide +kernel) rfl ?_
  refine aw_iconst (n := 0) (by decide +kernel) ?_
  refine aw_aload_n (k' := 0) (by decide +kernel) rfl ?_
  refine aw_callVH (y := yX11_hills) (M2 := mX11_hills) (as := []) (S := [vI 0, vR 190]) (nms := [eIA, eUO]) (idx := 7) (t := 1) (d2 := d2) (b2 := 1) (b3 := (b - 1)) cwX11_hills (tb_mem 568 (by decide +kernel) (by decide +kernel)) imX11_hills seX11_hills (by decide +kernel) (ci := 9) rfl (OB.at (ci := 9) (show shp 1 = (19, 0) by decide +kernel) (by decide)) (Nat.le_refl _) (by omega) rfl rfl (by simp [oneSlot]) (Nat.le_of_ble_eq_true rfl) rfl rfl (by decide +kernel) (by decide +kernel) (by decide +kernel) (by decide) (fun j z hz => match j, hz with
    | 0, hz => by
      have hz : some _ = some z := hz
      cases hz
      exact Or.inl ⟨2, (by decide +kernel), by decide, (by decide +kernel), (by decide +kernel)⟩
    | 1, hz => by
      have hz : some _ = some z := hz
      cases hz
      exact Or.inl ⟨2, (by decide +kernel), by decide, (by decide +kernel), (by decide +kernel)⟩
    | j + 2, hz => by
      have hz : none = some z := hz
      cases hz) (Ct.mono hC fun o h' hk => CK.aft hr (fun v g1 ha => ?_) k1 hk)
  show AW Γ l mL_hills (d2 + 1) (b - 1) 6 [vR 1, vR 190, vU] [vI v, vI 0, vR 190] (stt g1) K
  refine aw_i2l (by decide +kernel) ?_
  refine aw_last (t := 190) (j := 0) (n := 1) (by decide +kernel) (isA_lit (show shp 190 = (3, 1) by decide +kernel) (by decide)) (by decide +kernel) (by decide +kernel) ?_
  rw [wr_0]
  refine aw_goto (off := 9) (tgt := 17) (by decide +kernel) (by decide) ?_
  refine aw_iconst (n := 0) (by decide +kernel) ?_
  exact aw_iret (by decide +kernel) rfl (k0 v g1 ha)
abbrev mL_law : MT := (RL, cL_law, 3, some .int, "law", [(0, 8, 11, 13)])
theorem cwL_law {M : MT} {i : Nat} : callWH M i yL_law mL_law 2 := ⟨(tb_mem 806 (by decide +kernel) (by decide +kernel)), (tb_mem 0 (by decide +kernel) (by decide +kernel)), ⟨(by decide +kernel), (by decide +kernel)⟩, (by decide +kernel), by decide⟩
theorem stL_law : Cond.static yL_law ∈ gw := (tb_mem 805 (by decide +kernel) (by decide +kernel))
set_option maxHeartbeats 1000000 in
theorem w_law {Γ : Cfg} {l : Launch} {d2 b : Nat} {g : GG} {K : Ou → HP → Prop} {A : Int → Int → GG → Prop} (hb : 1 ≤ b) (hr : ∀ c v g1, A c v g1 → 0 ≤ c ∧ c ≤ ([eIA] : List String).length) (hC : Ct Γ l d2 1 yX11_law mX11_law [vR 1] (stt g) (CK [eIA] A)) (k0 : ∀ v g1, A 0 v g1 → K (.inl (vI 0)) (stt (upd2 g1 190 0 (wr v)))) (k1 : ∀ c v g1, A c v g1 → 0 < c → K (.inl (vI c)) (stt g1)) : CtH Γ l (d2 + 1) b yL_law mL_law [vR 1, vR 190] (stt g) K := by
  refine CtH.enter (L := [vR 1, vR 190, vU]) rfl rfl (by decide +kernel) (by simp [oneSlot]) (Nat.le_of_ble_eq_true rfl) rfl ?_
  refine aw_aload_n (k' := 1) (by decide +kernel) rfl ?_
  refine aw_iconst (n := 0) (by decide +kernel) ?_
  refine aw_aload_n (k' := 0) (by decide +kernel) rfl ?_
  refine aw_callVH (y := yX11_law) (M2 := mX11_law) (as := []) (S := [vI 0, vR 190]) (nms := [eIA]) (idx := 17) (t := 1) (d2 := d2) (b2 := 1) (b3 := (b - 1)) cwX11_law (tb_mem 807 (by decide +kernel) (by decide +kernel)) imX11_law seX11_law (by decide +kernel) (ci := 9) rfl (OB.at (ci := 9) (show shp 1 = (19, 0) by decide +kernel) (by decide)) (Nat.le_refl _) (by omega) rfl rfl (by simp [oneSlot]) (Nat.le_of_ble_eq_true rfl) rfl rfl (by decide +kernel) (by decide +kernel) (by decide +kernel) (by decide) (fun j z hz => match j, hz with
    | 0, hz => by
      have hz : some _ = some z := hz
      cases hz
      exact Or.inl ⟨2, (by decide +kernel), by decide, (by decide +kernel), (by decide +kernel)⟩
    | j + 1, hz => by
      have hz : none = some z := hz
      cases hz) (Ct.mono hC fun o h' hk => CK.aft hr (fun v g1 ha => ?_) k1 hk)
  show AW Γ l mL_law (d2 + 1) (b - 1) 6 [vR 1, vR 190, vU] [vI v, vI 0, vR 190] (stt g1) K
  refine aw_i2l (by decide +kernel) ?_
  refine aw_last (t := 190) (j := 0) (n := 1) (by decide +kernel) (isA_lit (show shp 190 = (3, 1) by decide +kernel) (by decide)) (by decide +kernel) (by decide +kernel) ?_
  rw [wr_0]
  refine aw_goto (off := 6) (tgt := 14) (by decide +kernel) (by decide) ?_
  refine aw_iconst (n := 0) (by decide +kernel) ?_
  exact aw_iret (by decide +kernel) rfl (k0 v g1 ha)
abbrev mL_person : MT := (RL, cL_person, 5, some .int, "person", [(0, 10, 13, 24), (0, 10, 17, 26)])
theorem cwL_person {M : MT} {i : Nat} : callWH M i yL_person mL_person 4 := ⟨(tb_mem 874 (by decide +kernel) (by decide +kernel)), (tb_mem 0 (by decide +kernel) (by decide +kernel)), ⟨(by decide +kernel), (by decide +kernel)⟩, (by decide +kernel), by decide⟩
theorem stL_person : Cond.static yL_person ∈ gw := (tb_mem 873 (by decide +kernel) (by decide +kernel))
set_option maxHeartbeats 1000000 in
theorem w_person {Γ : Cfg} {l : Launch} {d2 b : Nat} {g : GG} {x0 x1 : Int} {K : Ou → HP → Prop} {A : Int → Int → GG → Prop} (hb : 2 ≤ b) (hr : ∀ c v g1, A c v g1 → 0 ≤ c ∧ c ≤ ([eIO, eNS] : List String).length) (hC : Ct Γ l d2 2 yX11_person mX11_person [vR 1, vI x0, vI x1] (stt g) (CK [eIO, eNS] A)) (k0 : ∀ v g1, A 0 v g1 → K (.inl (vI 0)) (stt (upd2 g1 190 0 (wr v)))) (k1 : ∀ c v g1, A c v g1 → 0 < c → K (.inl (vI c)) (stt g1)) : CtH Γ l (d2 + 1) b yL_person mL_person [vR 1, vI x0, vI x1, vR 190] (stt g) K := by
  refine CtH.enter (L := [vR 1, vI x0, vI x1, vR 190, vU]) rfl rfl (by decide +kernel) (by simp [oneSlot]) (Nat.le_of_ble_eq_true rfl) rfl ?_
  refine aw_aload_n (k' := 3) (by decide +kernel) rfl ?_
  refine aw_iconst (n := 0) (by decide +kernel) ?_
  refine aw_aload_n (k' := 0) (by decide +kernel) rfl ?_
  refine aw_iload_n (k' := 1) (by decide +kernel) rfl ?_
  refine aw_iload_n (k' := 2) (by decide +kernel) rfl ?_
  refine aw_callVH (y := yX11_person) (M2 := mX11_person) (as := [vI x0, vI x1]) (S := [vI 0, vR 190]) (nms := [eIO, eNS]) (idx := 20) (t := 1) (d2 := d2) (b2 := 2) (b3 := (b - 2)) cwX11_person (tb_mem 877 (by decide +kernel) (by decide +kernel)) imX11_person seX11_person (by decide +kernel) (ci := 9) rfl (OB.at (ci := 9) (show shp 1 = (19, 0) by decide +kernel) (by decide)) (Nat.le_refl _) (by omega) rfl rfl (by simp [oneSlot]) (Nat.le_of_ble_eq_true rfl) rfl rfl (by decide +kernel) (by decide +kernel) (by decide +kernel) (by decide) (fun j z hz => match j, hz with
    | 0, hz => by
      have hz : some _ = some z := hz
      cases hz
      exact Or.inr ⟨4, (by decide +kernel), by decide, (by decide +kernel), (by decide +kernel)⟩
    | 1, hz => by
      have hz : some _ = some z := hz
      cases hz
      exact Or.inr ⟨4, (by decide +kernel), by decide, (by decide +kernel), (by decide +kernel)⟩
    | j + 2, hz => by
      have hz : none = some z := hz
      cases hz) (Ct.mono hC fun o h' hk => CK.aft hr (fun v g1 ha => ?_) k1 hk)
  show AW Γ l mL_person (d2 + 1) (b - 2) 8 [vR 1, vI x0, vI x1, vR 190, vU] [vI v, vI 0, vR 190] (stt g1) K
  refine aw_i2l (by decide +kernel) ?_
  refine aw_last (t := 190) (j := 0) (n := 1) (by decide +kernel) (isA_lit (show shp 190 = (3, 1) by decide +kernel) (by decide)) (by decide +kernel) (by decide +kernel) ?_
  rw [wr_0]
  refine aw_goto (off := 11) (tgt := 21) (by decide +kernel) (by decide) ?_
  refine aw_iconst (n := 0) (by decide +kernel) ?_
  exact aw_iret (by decide +kernel) rfl (k0 v g1 ha)
abbrev mL_word : MT := (RL, cL_word, 6, some .int, "word", [(0, 12, 15, 24)])
theorem cwL_word {M : MT} {i : Nat} : callWH M i yL_word mL_word 5 := ⟨(tb_mem 944 (by decide +kernel) (by decide +kernel)), (tb_mem 0 (by decide +kernel) (by decide +kernel)), ⟨(by decide +kernel), (by decide +kernel)⟩, (by decide +kernel), by decide⟩
theorem stL_word : Cond.static yL_word ∈ gw := (tb_mem 943 (by decide +kernel) (by decide +kernel))
set_option maxHeartbeats 1000000 in
theorem w_word {Γ : Cfg} {l : Launch} {d2 b : Nat} {g : GG} {x0 x1 x2 : Int} {K : Ou → HP → Prop} {A : Int → Int → GG → Prop} (hb : 1 ≤ b) (hr : ∀ c v g1, A c v g1 → 0 ≤ c ∧ c ≤ ([eIO] : List String).length) (hC : Ct Γ l d2 1 yX11_word mX11_word [vR 1, vI x0, vI x1, vI x2] (stt g) (CK [eIO] A)) (k0 : ∀ v g1, A 0 v g1 → K (.inl (vI 0)) (stt (upd2 g1 190 0 (wr v)))) (k1 : ∀ c v g1, A c v g1 → 0 < c → K (.inl (vI c)) (stt g1)) : CtH Γ l (d2 + 1) b yL_word mL_word [vR 1, vI x0, vI x1, vI x2, vR 190] (stt g) K := by
  refine CtH.enter (L := [vR 1, vI x0, vI x1, vI x2, vR 190, vU]) rfl rfl (by decide +kernel) (by simp [oneSlot]) (Nat.le_of_ble_eq_true rfl) rfl ?_
  refine aw_aload (i := 4) (by decide +kernel) rfl ?_
  refine aw_iconst (n := 0) (by decide +kernel) ?_
  refine aw_aload_n (k' := 0) (by decide +kernel) rfl ?_
  refine aw_iload_n (k' := 1) (by decide +kernel) rfl ?_
  refine aw_iload_n (k' := 2) (by decide +kernel) rfl ?_
  refine aw_iload_n (k' := 3) (by decide +kernel) rfl ?_
  refine aw_callVH (y := yX11_word) (M2 := mX11_word) (as := [vI x0, vI x1, vI x2]) (S := [vI 0, vR 190]) (nms := [eIO]) (idx := 28) (t := 1) (d2 := d2) (b2 := 1) (b3 := (b - 1)) cwX11_word (tb_mem 945 (by decide +kernel) (by decide +kernel)) imX11_word seX11_word (by decide +kernel) (ci := 9) rfl (OB.at (ci := 9) (show shp 1 = (19, 0) by decide +kernel) (by decide)) (Nat.le_refl _) (by omega) rfl rfl (by simp [oneSlot]) (Nat.le_of_ble_eq_true rfl) rfl rfl (by decide +kernel) (by decide +kernel) (by decide +kernel) (by decide) (fun j z hz => match j, hz with
    | 0, hz => by
      have hz : some _ = some z := hz
      cases hz
      exact Or.inr ⟨5, (by decide +kernel), by decide, (by decide +kernel), (by decide +kernel)⟩
    | j + 1, hz => by
      have hz : none = some z := hz
      cases hz) (Ct.mono hC fun o h' hk => CK.aft hr (fun v g1 ha => ?_) k1 hk)
  show AW Γ l mL_word (d2 + 1) (b - 1) 10 [vR 1, vI x0, vI x1, vI x2, vR 190, vU] [vI v, vI 0, vR 190] (stt g1) K
  refine aw_i2l (by decide +kernel) ?_
  refine aw_last (t := 190) (j := 0) (n := 1) (by decide +kernel) (isA_lit (show shp 190 = (3, 1) by decide +kernel) (by decide)) (by decide +kernel) (by decide +kernel) ?_
  rw [wr_0]
  refine aw_goto (off := 7) (tgt := 19) (by decide +kernel) (by decide) ?_
  refine aw_iconst (n := 0) (by decide +kernel) ?_
  exact aw_iret (by decide +kernel) rfl (k0 v g1 ha)
abbrev mL_reading : MT := (RL, cL_reading, 6, some .int, "reading", [(0, 12, 15, 24), (0, 12, 19, 13), (0, 12, 23, 26)])
theorem cwL_reading {M : MT} {i : Nat} : callWH M i yL_reading mL_reading 5 := ⟨(tb_mem 952 (by decide +kernel) (by decide +kernel)), (tb_mem 0 (by decide +kernel) (by decide +kernel)), ⟨(by decide +kernel), (by decide +kernel)⟩, (by decide +kernel), by decide⟩
theorem stL_reading : Cond.static yL_reading ∈ gw := (tb_mem 951 (by decide +kernel) (by decide +kernel))
set_option maxHeartbeats 1000000 in
theorem w_reading {Γ : Cfg} {l : Launch} {d2 b : Nat} {g : GG} {x0 x1 x2 : Int} {K : Ou → HP → Prop} {A : Int → Int → GG → Prop} (hb : 3 ≤ b) (hr : ∀ c v g1, A c v g1 → 0 ≤ c ∧ c ≤ ([eIO, eIA, eNS] : List String).length) (hC : Ct Γ l d2 3 yX11_reading mX11_reading [vR 1, vI x0, vI x1, vI x2] (stt g) (CK [eIO, eIA, eNS] A)) (k0 : ∀ v g1, A 0 v g1 → K (.inl (vI 0)) (stt (upd2 g1 190 0 (wr v)))) (k1 : ∀ c v g1, A c v g1 → 0 < c → K (.inl (vI c)) (stt g1)) : CtH Γ l (d2 + 1) b yL_reading mL_reading [vR 1, vI x0, vI x1, vI x2, vR 190] (stt g) K := by
  refine CtH.enter (L := [vR 1, vI x0, vI x1, vI x2, vR 190, vU]) rfl rfl (by decide +kernel) (by simp [oneSlot]) (Nat.le_of_ble_eq_true rfl) rfl ?_
  refine aw_aload (i := 4) (by decide +kernel) rfl ?_
  refine aw_iconst (n := 0) (by decide +kernel) ?_
  refine aw_aload_n (k' := 0) (by decide +kernel) rfl ?_
  refine aw_iload_n (k' := 1) (by decide +kernel) rfl ?_
  refine aw_iload_n (k' := 2) (by decide +kernel) rfl ?_
  refine aw_iload_n (k' := 3) (by decide +kernel) rfl ?_
  refine aw_callVH (y := yX11_reading) (M2 := mX11_reading) (as := [vI x0, vI x1, vI x2]) (S := [vI 0, vR 190]) (nms := [eIO, eIA, eNS]) (idx := 32) (t := 1) (d2 := d2) (b2 := 3) (b3 := (b - 3)) cwX11_reading (tb_mem 953 (by decide +kernel) (by decide +kernel)) imX11_reading seX11_reading (by decide +kernel) (ci := 9) rfl (OB.at (ci := 9) (show shp 1 = (19, 0) by decide +kernel) (by decide)) (Nat.le_refl _) (by omega) rfl rfl (by simp [oneSlot]) (Nat.le_of_ble_eq_true rfl) rfl rfl (by decide +kernel) (by decide +kernel) (by decide +kernel) (by decide) (fun j z hz => match j, hz with
    | 0, hz => by
      have hz : some _ = some z := hz
      cases hz
      exact Or.inr ⟨5, (by decide +kernel), by decide, (by decide +kernel), (by decide +kernel)⟩
    | 1, hz => by
      have hz : some _ = some z := hz
      cases hz
      exact Or.inr ⟨5, (by decide +kernel), by decide, (by decide +kernel), (by decide +kernel)⟩
    | 2, hz => by
      have hz : some _ = some z := hz
      cases hz
      exact Or.inr ⟨5, (by decide +kernel), by decide, (by decide +kernel), (by decide +kernel)⟩
    | j + 3, hz => by
      have hz : none = some z := hz
      cases hz) (Ct.mono hC fun o h' hk => CK.aft hr (fun v g1 ha => ?_) k1 hk)
  show AW Γ l mL_reading (d2 + 1) (b - 3) 10 [vR 1, vI x0, vI x1, vI x2, vR 190, vU] [vI v, vI 0, vR 190] (stt g1) K
  refine aw_i2l (by decide +kernel) ?_
  refine aw_last (t := 190) (j := 0) (n := 1) (by decide +kernel) (isA_lit (show shp 190 = (3, 1) by decide +kernel) (by decide)) (by decide +kernel) (by decide +kernel) ?_
  rw [wr_0]
  refine aw_goto (off := 15) (tgt := 27) (by decide +kernel) (by decide) ?_
  refine aw_iconst (n := 0) (by decide +kernel) ?_
  exact aw_iret (by decide +kernel) rfl (k0 v g1 ha)
abbrev mL_hold : MT := (RL, cL_hold, 5, some .int, "hold", [(0, 10, 13, 24), (0, 10, 17, 26)])
theorem cwL_hold {M : MT} {i : Nat} : callWH M i yL_hold mL_hold 4 := ⟨(tb_mem 965 (by decide +kernel) (by decide +kernel)), (tb_mem 0 (by decide +kernel) (by decide +kernel)), ⟨(by decide +kernel), (by decide +kernel)⟩, (by decide +kernel), by decide⟩
theorem stL_hold : Cond.static yL_hold ∈ gw := (tb_mem 964 (by decide +kernel) (by decide +kernel))
set_option maxHeartbeats 1000000 in
theorem w_hold {Γ : Cfg} {l : Launch} {d2 b : Nat} {g : GG} {x0 x1 : Int} {K : Ou → HP → Prop} {A : Int → Int → GG → Prop} (hb : 2 ≤ b) (hr : ∀ c v g1, A c v g1 → 0 ≤ c ∧ c ≤ ([eIO, eNS] : List String).length) (hC : Ct Γ l d2 2 yX11_hold mX11_hold [vR 1, vI x0, vI x1] (stt g) (CK [eIO, eNS] A)) (k0 : ∀ v g1, A 0 v g1 → K (.inl (vI 0)) (stt (upd2 g1 190 0 (wr v)))) (k1 : ∀ c v g1, A c v g1 → 0 < c → K (.inl (vI c)) (stt g1)) : CtH Γ l (d2 + 1) b yL_hold mL_hold [vR 1, vI x0, vI x1, vR 190] (stt g) K := by
  refine CtH.enter (L := [vR 1, vI x0, vI x1, vR 190, vU]) rfl rfl (by decide +kernel) (by simp [oneSlot]) (Nat.le_of_ble_eq_true rfl) rfl ?_
  refine aw_aload_n (k' := 3) (by decide +kernel) rfl ?_
  refine aw_iconst (n := 0) (by decide +kernel) ?_
  refine aw_aload_n (k' := 0) (by decide +kernel) rfl ?_
  refine aw_iload_n (k' := 1) (by decide +kernel) rfl ?_
  refine aw_iload_n (k' := 2) (by decide +kernel) rfl ?_
  refine aw_callVH (y := yX11_hold) (M2 := mX11_hold) (as := [vI x0, vI x1]) (S := [vI 0, vR 190]) (nms := [eIO, eNS]) (idx := 36) (t := 1) (d2 := d2) (b2 := 2) (b3 := (b - 2)) cwX11_hold (tb_mem 966 (by decide +kernel) (by decide +kernel)) imX11_hold seX11_hold (by decide +kernel) (ci := 9) rfl (OB.at (ci := 9) (show shp 1 = (19, 0) by decide +kernel) (by decide)) (Nat.le_refl _) (by omega) rfl rfl (by simp [oneSlot]) (Nat.le_of_ble_eq_true rfl) rfl rfl (by decide +kernel) (by decide +kernel) (by decide +kernel) (by decide) (fun j z hz => match j, hz with
    | 0, hz => by
      have hz : some _ = some z := hz
      cases hz
      exact Or.inr ⟨4, (by decide +kernel), by decide, (by decide +kernel), (by decide +kernel)⟩
    | 1, hz => by
      have hz : some _ = some z := hz
      cases hz
      exact Or.inr ⟨4, (by decide +kernel), by decide, (by decide +kernel), (by decide +kernel)⟩
    | j + 2, hz => by
      have hz : none = some z := hz
      cases hz) (Ct.mono hC fun o h' hk => CK.aft hr (fun v g1 ha => ?_) k1 hk)
  show AW Γ l mL_hold (d2 + 1) (b - 2) 8 [vR 1, vI x0, vI x1, vR 190, vU] [vI v, vI 0, vR 190] (stt g1) K
  refine aw_i2l (by decide +kernel) ?_
  refine aw_last (t := 190) (j := 0) (n := 1) (by decide +kernel) (isA_lit (show shp 190 = (3, 1) by decide +kernel) (by decide)) (by decide +kernel) (by decide +kernel) ?_
  rw [wr_0]
  refine aw_goto (off := 11) (tgt := 21) (by decide +kernel) (by decide) ?_
  refine aw_iconst (n := 0) (by decide +kernel) ?_
  exact aw_iret (by decide +kernel) rfl (k0 v g1 ha)
abbrev mL_mode : MT := (RL, cL_mode, 4, some .int, "mode", [(0, 9, 12, 24)])
theorem cwL_mode {M : MT} {i : Nat} : callWH M i yL_mode mL_mode 3 := ⟨(tb_mem 972 (by decide +kernel) (by decide +kernel)), (tb_mem 0 (by decide +kernel) (by decide +kernel)), ⟨(by decide +kernel), (by decide +kernel)⟩, (by decide +kernel), by decide⟩
theorem stL_mode : Cond.static yL_mode ∈ gw := (tb_mem 971 (by decide +kernel) (by decide +kernel))
set_option maxHeartbeats 1000000 in
theorem w_mode {Γ : Cfg} {l : Launch} {d2 b : Nat} {g : GG} {x0 : Int} {K : Ou → HP → Prop} {A : Int → Int → GG → Prop} (hb : 1 ≤ b) (hr : ∀ c v g1, A c v g1 → 0 ≤ c ∧ c ≤ ([eIO] : List String).length) (hC : Ct Γ l d2 1 yX11_mode mX11_mode [vR 1, vI x0] (stt g) (CK [eIO] A)) (k0 : ∀ v g1, A 0 v g1 → K (.inl (vI 0)) (stt (upd2 g1 190 0 (wr v)))) (k1 : ∀ c v g1, A c v g1 → 0 < c → K (.inl (vI c)) (stt g1)) : CtH Γ l (d2 + 1) b yL_mode mL_mode [vR 1, vI x0, vR 190] (stt g) K := by
  refine CtH.enter (L := [vR 1, vI x0, vR 190, vU]) rfl rfl (by decide +kernel) (by simp [oneSlot]) (Nat.le_of_ble_eq_true rfl) rfl ?_
  refine aw_aload_n (k' := 2) (by decide +kernel) rfl ?_
  refine aw_iconst (n := 0) (by decide +kernel) ?_
  refine aw_aload_n (k' := 0) (by decide +kernel) rfl ?_
  refine aw_iload_n (k' := 1) (by decide +kernel) rfl ?_
  refine aw_callVH (y := yX11_mode) (M2 := mX11_mode) (as := [vI x0]) (S := [vI 0, vR 190]) (nms := [eIO]) (idx := 39) (t := 1) (d2 := d2) (b2 := 1) (b3 := (b - 1)) cwX11_mode (tb_mem 973 (by decide +kernel) (by decide +kernel)) imX11_mode seX11_mode (by decide +kernel) (ci := 9) rfl (OB.at (ci := 9) (show shp 1 = (19, 0) by decide +kernel) (by decide)) (Nat.le_refl _) (by omega) rfl rfl (by simp [oneSlot]) (Nat.le_of_ble_eq_true rfl) rfl rfl (by decide +kernel) (by decide +kernel) (by decide +kernel) (by decide) (fun j z hz => match j, hz with
    | 0, hz => by
      have hz : some _ = some z := hz
      cases hz
      exact Or.inl ⟨3, (by decide +kernel), by decide, (by decide +kernel), (by decide +kernel)⟩
    | j + 1, hz => by
      have hz : none = some z := hz
      cases hz) (Ct.mono hC fun o h' hk => CK.aft hr (fun v g1 ha => ?_) k1 hk)
  show AW Γ l mL_mode (d2 + 1) (b - 1) 7 [vR 1, vI x0, vR 190, vU] [vI v, vI 0, vR 190] (stt g1) K
  refine aw_i2l (by decide +kernel) ?_
  refine aw_last (t := 190) (j := 0) (n := 1) (by decide +kernel) (isA_lit (show shp 190 = (3, 1) by decide +kernel) (by decide)) (by decide +kernel) (by decide +kernel) ?_
  rw [wr_0]
  refine aw_goto (off := 6) (tgt := 15) (by decide +kernel) (by decide) ?_
  refine aw_iconst (n := 0) (by decide +kernel) ?_
  exact aw_iret (by decide +kernel) rfl (k0 v g1 ha)
abbrev mL_hours : MT := (RL, cL_hours, 4, some .int, "hours", [(0, 9, 12, 13)])
theorem cwL_hours {M : MT} {i : Nat} : callWH M i yL_hours mL_hours 3 := ⟨(tb_mem 983 (by decide +kernel) (by decide +kernel)), (tb_mem 0 (by decide +kernel) (by decide +kernel)), ⟨(by decide +kernel), (by decide +kernel)⟩, (by decide +kernel), by decide⟩
theorem stL_hours : Cond.static yL_hours ∈ gw := (tb_mem 982 (by decide +kernel) (by decide +kernel))
set_option maxHeartbeats 1000000 in
theorem w_hours {Γ : Cfg} {l : Launch} {d2 b : Nat} {g : GG} {x0 : Int} {K : Ou → HP → Prop} {A : Int → Int → GG → Prop} (hb : 1 ≤ b) (hr : ∀ c v g1, A c v g1 → 0 ≤ c ∧ c ≤ ([eIA] : List String).length) (hC : Ct Γ l d2 1 yX11_hours mX11_hours [vR 1, vI x0] (stt g) (CK [eIA] A)) (k0 : ∀ v g1, A 0 v g1 → K (.inl (vI 0)) (stt (upd2 g1 190 0 (wr v)))) (k1 : ∀ c v g1, A c v g1 → 0 < c → K (.inl (vI c)) (stt g1)) : CtH Γ l (d2 + 1) b yL_hours mL_hours [vR 1, vI x0, vR 190] (stt g) K := by
  refine CtH.enter (L := [vR 1, vI x0, vR 190, vU]) rfl rfl (by decide +kernel) (by simp [oneSlot]) (Nat.le_of_ble_eq_true rfl) rfl ?_
  refine aw_aload_n (k' := 2) (by decide +kernel) rfl ?_
  refine aw_iconst (n := 0) (by decide +kernel) ?_
  refine aw_aload_n (k' := 0) (by decide +kernel) rfl ?_
  refine aw_iload_n (k' := 1) (by decide +kernel) rfl ?_
  refine aw_callVH (y := yX11_hours) (M2 := mX11_hours) (as := [vI x0]) (S := [vI 0, vR 190]) (nms := [eIA]) (idx := 43) (t := 1) (d2 := d2) (b2 := 1) (b3 := (b - 1)) cwX11_hours (tb_mem 984 (by decide +kernel) (by decide +kernel)) imX11_hours seX11_hours (by decide +kernel) (ci := 9) rfl (OB.at (ci := 9) (show shp 1 = (19, 0) by decide +kernel) (by decide)) (Nat.le_refl _) (by omega) rfl rfl (by simp [oneSlot]) (Nat.le_of_ble_eq_true rfl) rfl rfl (by decide +kernel) (by decide +kernel) (by decide +kernel) (by decide) (fun j z hz => match j, hz with
    | 0, hz => by
      have hz : some _ = some z := hz
      cases hz
      exact Or.inl ⟨3, (by decide +kernel), by decide, (by decide +kernel), (by decide +kernel)⟩
    | j + 1, hz => by
      have hz : none = some z := hz
      cases hz) (Ct.mono hC fun o h' hk => CK.aft hr (fun v g1 ha => ?_) k1 hk)
  show AW Γ l mL_hours (d2 + 1) (b - 1) 7 [vR 1, vI x0, vR 190, vU] [vI v, vI 0, vR 190] (stt g1) K
  refine aw_i2l (by decide +kernel) ?_
  refine aw_last (t := 190) (j := 0) (n := 1) (by decide +kernel) (isA_lit (show shp 190 = (3, 1) by decide +kernel) (by decide)) (by decide +kernel) (by decide +kernel) ?_
  rw [wr_0]
  refine aw_goto (off := 6) (tgt := 15) (by decide +kernel) (by decide) ?_
  refine aw_iconst (n := 0) (by decide +kernel) ?_
  exact aw_iret (by decide +kernel) rfl (k0 v g1 ha)
abbrev mL_begin : MT := (RL, cL_begin, 4, some .int, "begin", [(0, 9, 12, 24), (0, 9, 15, 49)])
theorem cwL_begin {M : MT} {i : Nat} : callWH M i yL_begin mL_begin 3 := ⟨(tb_mem 1033 (by decide +kernel) (by decide +kernel)), (tb_mem 0 (by decide +kernel) (by decide +kernel)), ⟨(by decide +kernel), (by decide +kernel)⟩, (by decide +kernel), by decide⟩
theorem stL_begin : Cond.static yL_begin ∈ gw := (tb_mem 1032 (by decide +kernel) (by decide +kernel))
set_option maxHeartbeats 1000000 in
theorem w_begin {Γ : Cfg} {l : Launch} {d2 b : Nat} {g : GG} {x0 : Int} {K : Ou → HP → Prop} {A : Int → Int → GG → Prop} (hb : 2 ≤ b) (hr : ∀ c v g1, A c v g1 → 0 ≤ c ∧ c ≤ ([eIO, eIS] : List String).length) (hC : Ct Γ l d2 2 yX11_begin mX11_begin [vR 1, vI x0] (stt g) (CK [eIO, eIS] A)) (k0 : ∀ v g1, A 0 v g1 → K (.inl (vI 0)) (stt (upd2 g1 190 0 (wr v)))) (k1 : ∀ c v g1, A c v g1 → 0 < c → K (.inl (vI c)) (stt g1)) : CtH Γ l (d2 + 1) b yL_begin mL_begin [vR 1, vI x0, vR 190] (stt g) K := by
  refine CtH.enter (L := [vR 1, vI x0, vR 190, vU]) rfl rfl (by decide +kernel) (by simp [oneSlot]) (Nat.le_of_ble_eq_true rfl) rfl ?_
  refine aw_aload_n (k' := 2) (by decide +kernel) rfl ?_
  refine aw_iconst (n := 0) (by decide +kernel) ?_
  refine aw_aload_n (k' := 0) (by decide +kernel) rfl ?_
  refine aw_iload_n (k' := 1) (by decide +kernel) rfl ?_
  refine aw_callVH (y := yX11_begin) (M2 := mX11_begin) (as := [vI x0]) (S := [vI 0, vR 190]) (nms := [eIO, eIS]) (idx := 46) (t := 1) (d2 := d2) (b2 := 2) (b3 := (b - 2)) cwX11_begin (tb_mem 1035 (by decide +kernel) (by decide +kernel)) imX11_begin seX11_begin (by decide +kernel) (ci := 9) rfl (OB.at (ci := 9) (show shp 1 = (19, 0) by decide +kernel) (by decide)) (Nat.le_refl _) (by omega) rfl rfl (by simp [oneSlot]) (Nat.le_of_ble_eq_true rfl) rfl rfl (by decide +kernel) (by decide +kernel) (by decide +kernel) (by decide) (fun j z hz => match j, hz with
    | 0, hz => by
      have hz : some _ = some z := hz
      cases hz
      exact Or.inl ⟨3, (by decide +kernel), by decide, (by decide +kernel), (by decide +kernel)⟩
    | 1, hz => by
      have hz : some _ = some z := hz
      cases hz
      exact Or.inl ⟨3, (by decide +kernel), by decide, (by decide +kernel), (by decide +kernel)⟩
    | j + 2, hz => by
      have hz : none = some z := hz
      cases hz) (Ct.mono hC fun o h' hk => CK.aft hr (fun v g1 ha => ?_) k1 hk)
  show AW Γ l mL_begin (d2 + 1) (b - 2) 7 [vR 1, vI x0, vR 190, vU] [vI v, vI 0, vR 190] (stt g1) K
  refine aw_i2l (by decide +kernel) ?_
  refine aw_last (t := 190) (j := 0) (n := 1) (by decide +kernel) (isA_lit (show shp 190 = (3, 1) by decide +kernel) (by decide)) (by decide +kernel) (by decide +kernel) ?_
  rw [wr_0]
  refine aw_goto (off := 9) (tgt := 18) (by decide +kernel) (by decide) ?_
  refine aw_iconst (n := 0) (by decide +kernel) ?_
  exact aw_iret (by decide +kernel) rfl (k0 v g1 ha)
abbrev mL_stop : MT := (RL, cL_stop, 5, some .int, "stop", [(0, 10, 13, 24), (0, 10, 17, 13), (0, 10, 21, 49)])
theorem cwL_stop {M : MT} {i : Nat} : callWH M i yL_stop mL_stop 4 := ⟨(tb_mem 1062 (by decide +kernel) (by decide +kernel)), (tb_mem 0 (by decide +kernel) (by decide +kernel)), ⟨(by decide +kernel), (by decide +kernel)⟩, (by decide +kernel), by decide⟩
theorem stL_stop : Cond.static yL_stop ∈ gw := (tb_mem 1061 (by decide +kernel) (by decide +kernel))
set_option maxHeartbeats 1000000 in
theorem w_stop {Γ : Cfg} {l : Launch} {d2 b : Nat} {g : GG} {x0 x1 : Int} {K : Ou → HP → Prop} {A : Int → Int → GG → Prop} (hb : 3 ≤ b) (hr : ∀ c v g1, A c v g1 → 0 ≤ c ∧ c ≤ ([eIO, eIA, eIS] : List String).length) (hC : Ct Γ l d2 3 yX11_stop mX11_stop [vR 1, vI x0, vI x1] (stt g) (CK [eIO, eIA, eIS] A)) (k0 : ∀ v g1, A 0 v g1 → K (.inl (vI 0)) (stt (upd2 g1 190 0 (wr v)))) (k1 : ∀ c v g1, A c v g1 → 0 < c → K (.inl (vI c)) (stt g1)) : CtH Γ l (d2 + 1) b yL_stop mL_stop [vR 1, vI x0, vI x1, vR 190] (stt g) K := by
  refine CtH.enter (L := [vR 1, vI x0, vI x1, vR 190, vU]) rfl rfl (by decide +kernel) (by simp [oneSlot]) (Nat.le_of_ble_eq_true rfl) rfl ?_
  refine aw_aload_n (k' := 3) (by decide +kernel) rfl ?_
  refine aw_iconst (n := 0) (by decide +kernel) ?_
  refine aw_aload_n (k' := 0) (by decide +kernel) rfl ?_
  refine aw_iload_n (k' := 1) (by decide +kernel) rfl ?_
  refine aw_iload_n (k' := 2) (by decide +kernel) rfl ?_
  refine aw_callVH (y := yX11_stop) (M2 := mX11_stop) (as := [vI x0, vI x1]) (S := [vI 0, vR 190]) (nms := [eIO, eIA, eIS]) (idx := 51) (t := 1) (d2 := d2) (b2 := 3) (b3 := (b - 3)) cwX11_stop (tb_mem 1063 (by decide +kernel) (by decide +kernel)) imX11_stop seX11_stop (by decide +kernel) (ci := 9) rfl (OB.at (ci := 9) (show shp 1 = (19, 0) by decide +kernel) (by decide)) (Nat.le_refl _) (by omega) rfl rfl (by simp [oneSlot]) (Nat.le_of_ble_eq_true rfl) rfl rfl (by decide +kernel) (by decide +kernel) (by decide +kernel) (by decide) (fun j z hz => match j, hz with
    | 0, hz => by
      have hz : some _ = some z := hz
      cases hz
      exact Or.inr ⟨4, (by decide +kernel), by decide, (by decide +kernel), (by decide +kernel)⟩
    | 1, hz => by
      have hz : some _ = some z := hz
      cases hz
      exact Or.inr ⟨4, (by decide +kernel), by decide, (by decide +kernel), (by decide +kernel)⟩
    | 2, hz => by
      have hz : some _ = some z := hz
      cases hz
      exact Or.inr ⟨4, (by decide +kernel), by decide, (by decide +kernel), (by decide +kernel)⟩
    | j + 3, hz => by
      have hz : none = some z := hz
      cases hz) (Ct.mono hC fun o h' hk => CK.aft hr (fun v g1 ha => ?_) k1 hk)
  show AW Γ l mL_stop (d2 + 1) (b - 3) 8 [vR 1, vI x0, vI x1, vR 190, vU] [vI v, vI 0, vR 190] (stt g1) K
  refine aw_i2l (by decide +kernel) ?_
  refine aw_last (t := 190) (j := 0) (n := 1) (by decide +kernel) (isA_lit (show shp 190 = (3, 1) by decide +kernel) (by decide)) (by decide +kernel) (by decide +kernel) ?_
  rw [wr_0]
  refine aw_goto (off := 15) (tgt := 25) (by decide +kernel) (by decide) ?_
  refine aw_iconst (n := 0) (by decide +kernel) ?_
  exact aw_iret (by decide +kernel) rfl (k0 v g1 ha)
abbrev mL_finish : MT := (RL, cL_finish, 4, some .int, "finish", [(0, 9, 12, 24), (0, 9, 15, 49)])
theorem cwL_finish {M : MT} {i : Nat} : callWH M i yL_finish mL_finish 3 := ⟨(tb_mem 1070 (by decide +kernel) (by decide +kernel)), (tb_mem 0 (by decide +kernel) (by decide +kernel)), ⟨(by decide +kernel), (by decide +kernel)⟩, (by decide +kernel), by decide⟩
theorem stL_finish : Cond.static yL_finish ∈ gw := (tb_mem 1069 (by decide +kernel) (by decide +kernel))
set_option maxHeartbeats 1000000 in
theorem w_finish {Γ : Cfg} {l : Launch} {d2 b : Nat} {g : GG} {x0 : Int} {K : Ou → HP → Prop} {A : Int → Int → GG → Prop} (hb : 2 ≤ b) (hr : ∀ c v g1, A c v g1 → 0 ≤ c ∧ c ≤ ([eIO, eIS] : List String).length) (hC : Ct Γ l d2 2 yX11_finish mX11_finish [vR 1, vI x0] (stt g) (CK [eIO, eIS] A)) (k0 : ∀ v g1, A 0 v g1 → K (.inl (vI 0)) (stt (upd2 g1 190 0 (wr v)))) (k1 : ∀ c v g1, A c v g1 → 0 < c → K (.inl (vI c)) (stt g1)) : CtH Γ l (d2 + 1) b yL_finish mL_finish [vR 1, vI x0, vR 190] (stt g) K := by
  refine CtH.enter (L := [vR 1, vI x0, vR 190, vU]) rfl rfl (by decide +kernel) (by simp [oneSlot]) (Nat.le_of_ble_eq_true rfl) rfl ?_
  refine aw_aload_n (k' := 2) (by decide +kernel) rfl ?_
  refine aw_iconst (n := 0) (by decide +kernel) ?_
  refine aw_aload_n (k' := 0) (by decide +kernel) rfl ?_
  refine aw_iload_n (k' := 1) (by decide +kernel) rfl ?_
  refine aw_callVH (y := yX11_finish) (M2 := mX11_finish) (as := [vI x0]) (S := [vI 0, vR 190]) (nms := [eIO, eIS]) (idx := 54) (t := 1) (d2 := d2) (b2 := 2) (b3 := (b - 2)) cwX11_finish (tb_mem 1071 (by decide +kernel) (by decide +kernel)) imX11_finish seX11_finish (by decide +kernel) (ci := 9) rfl (OB.at (ci := 9) (show shp 1 = (19, 0) by decide +kernel) (by decide)) (Nat.le_refl _) (by omega) rfl rfl (by simp [oneSlot]) (Nat.le_of_ble_eq_true rfl) rfl rfl (by decide +kernel) (by decide +kernel) (by decide +kernel) (by decide) (fun j z hz => match j, hz with
    | 0, hz => by
      have hz : some _ = some z := hz
      cases hz
      exact Or.inl ⟨3, (by decide +kernel), by decide, (by decide +kernel), (by decide +kernel)⟩
    | 1, hz => by
      have hz : some _ = some z := hz
      cases hz
      exact Or.inl ⟨3, (by decide +kernel), by decide, (by decide +kernel), (by decide +kernel)⟩
    | j + 2, hz => by
      have hz : none = some z := hz
      cases hz) (Ct.mono hC fun o h' hk => CK.aft hr (fun v g1 ha => ?_) k1 hk)
  show AW Γ l mL_finish (d2 + 1) (b - 2) 7 [vR 1, vI x0, vR 190, vU] [vI v, vI 0, vR 190] (stt g1) K
  refine aw_i2l (by decide +kernel) ?_
  refine aw_last (t := 190) (j := 0) (n := 1) (by decide +kernel) (isA_lit (show shp 190 = (3, 1) by decide +kernel) (by decide)) (by decide +kernel) (by decide +kernel) ?_
  rw [wr_0]
  refine aw_goto (off := 9) (tgt := 18) (by decide +kernel) (by decide) ?_
  refine aw_iconst (n := 0) (by decide +kernel) ?_
  exact aw_iret (by decide +kernel) rfl (k0 v g1 ha)
abbrev mL_retract : MT := (RL, cL_retract, 4, some .int, "retract", [(0, 9, 12, 24), (0, 9, 15, 49)])
theorem cwL_retract {M : MT} {i : Nat} : callWH M i yL_retract mL_retract 3 := ⟨(tb_mem 1078 (by decide +kernel) (by decide +kernel)), (tb_mem 0 (by decide +kernel) (by decide +kernel)), ⟨(by decide +kernel), (by decide +kernel)⟩, (by decide +kernel), by decide⟩
theorem stL_retract : Cond.static yL_retract ∈ gw := (tb_mem 1077 (by decide +kernel) (by decide +kernel))
set_option maxHeartbeats 1000000 in
theorem w_retract {Γ : Cfg} {l : Launch} {d2 b : Nat} {g : GG} {x0 : Int} {K : Ou → HP → Prop} {A : Int → Int → GG → Prop} (hb : 2 ≤ b) (hr : ∀ c v g1, A c v g1 → 0 ≤ c ∧ c ≤ ([eIO, eIS] : List String).length) (hC : Ct Γ l d2 2 yX11_retract mX11_retract [vR 1, vI x0] (stt g) (CK [eIO, eIS] A)) (k0 : ∀ v g1, A 0 v g1 → K (.inl (vI 0)) (stt (upd2 g1 190 0 (wr v)))) (k1 : ∀ c v g1, A c v g1 → 0 < c → K (.inl (vI c)) (stt g1)) : CtH Γ l (d2 + 1) b yL_retract mL_retract [vR 1, vI x0, vR 190] (stt g) K := by
  refine CtH.enter (L := [vR 1, vI x0, vR 190, vU]) rfl rfl (by decide +kernel) (by simp [oneSlot]) (Nat.le_of_ble_eq_true rfl) rfl ?_
  refine aw_aload_n (k' := 2) (by decide +kernel) rfl ?_
  refine aw_iconst (n := 0) (by decide +kernel) ?_
  refine aw_aload_n (k' := 0) (by decide +kernel) rfl ?_
  refine aw_iload_n (k' := 1) (by decide +kernel) rfl ?_
  refine aw_callVH (y := yX11_retract) (M2 := mX11_retract) (as := [vI x0]) (S := [vI 0, vR 190]) (nms := [eIO, eIS]) (idx := 57) (t := 1) (d2 := d2) (b2 := 2) (b3 := (b - 2)) cwX11_retract (tb_mem 1079 (by decide +kernel) (by decide +kernel)) imX11_retract seX11_retract (by decide +kernel) (ci := 9) rfl (OB.at (ci := 9) (show shp 1 = (19, 0) by decide +kernel) (by decide)) (Nat.le_refl _) (by omega) rfl rfl (by simp [oneSlot]) (Nat.le_of_ble_eq_true rfl) rfl rfl (by decide +kernel) (by decide +kernel) (by decide +kernel) (by decide) (fun j z hz => match j, hz with
    | 0, hz => by
      have hz : some _ = some z := hz
      cases hz
      exact Or.inl ⟨3, (by decide +kernel), by decide, (by decide +kernel), (by decide +kernel)⟩
    | 1, hz => by
      have hz : some _ = some z := hz
      cases hz
      exact Or.inl ⟨3, (by decide +kernel), by decide, (by decide +kernel), (by decide +kernel)⟩
    | j + 2, hz => by
      have hz : none = some z := hz
      cases hz) (Ct.mono hC fun o h' hk => CK.aft hr (fun v g1 ha => ?_) k1 hk)
  show AW Γ l mL_retract (d2 + 1) (b - 2) 7 [vR 1, vI x0, vR 190, vU] [vI v, vI 0, vR 190] (stt g1) K
  refine aw_i2l (by decide +kernel) ?_
  refine aw_last (t := 190) (j := 0) (n := 1) (by decide +kernel) (isA_lit (show shp 190 = (3, 1) by decide +kernel) (by decide)) (by decide +kernel) (by decide +kernel) ?_
  rw [wr_0]
  refine aw_goto (off := 9) (tgt := 18) (by decide +kernel) (by decide) ?_
  refine aw_iconst (n := 0) (by decide +kernel) ?_
  exact aw_iret (by decide +kernel) rfl (k0 v g1 ha)
abbrev mL_guard : MT := (RL, cL_guard, 5, some .int, "guard", [(0, 10, 13, 24), (0, 10, 17, 13)])
theorem cwL_guard {M : MT} {i : Nat} : callWH M i yL_guard mL_guard 4 := ⟨(tb_mem 1086 (by decide +kernel) (by decide +kernel)), (tb_mem 0 (by decide +kernel) (by decide +kernel)), ⟨(by decide +kernel), (by decide +kernel)⟩, (by decide +kernel), by decide⟩
theorem stL_guard : Cond.static yL_guard ∈ gw := (tb_mem 1085 (by decide +kernel) (by decide +kernel))
set_option maxHeartbeats 1000000 in
theorem w_guard {Γ : Cfg} {l : Launch} {d2 b : Nat} {g : GG} {x0 x1 : Int} {K : Ou → HP → Prop} {A : Int → Int → GG → Prop} (hb : 2 ≤ b) (hr : ∀ c v g1, A c v g1 → 0 ≤ c ∧ c ≤ ([eIO, eIA] : List String).length) (hC : Ct Γ l d2 2 yX11_guard mX11_guard [vR 1, vI x0, vI x1] (stt g) (CK [eIO, eIA] A)) (k0 : ∀ v g1, A 0 v g1 → K (.inl (vI 0)) (stt (upd2 g1 190 0 (wr v)))) (k1 : ∀ c v g1, A c v g1 → 0 < c → K (.inl (vI c)) (stt g1)) : CtH Γ l (d2 + 1) b yL_guard mL_guard [vR 1, vI x0, vI x1, vR 190] (stt g) K := by
  refine CtH.enter (L := [vR 1, vI x0, vI x1, vR 190, vU]) rfl rfl (by decide +kernel) (by simp [oneSlot]) (Nat.le_of_ble_eq_true rfl) rfl ?_
  refine aw_aload_n (k' := 3) (by decide +kernel) rfl ?_
  refine aw_iconst (n := 0) (by decide +kernel) ?_
  refine aw_aload_n (k' := 0) (by decide +kernel) rfl ?_
  refine aw_iload_n (k' := 1) (by decide +kernel) rfl ?_
  refine aw_iload_n (k' := 2) (by decide +kernel) rfl ?_
  refine aw_callVH (y := yX11_guard) (M2 := mX11_guard) (as := [vI x0, vI x1]) (S := [vI 0, vR 190]) (nms := [eIO, eIA]) (idx := 60) (t := 1) (d2 := d2) (b2 := 2) (b3 := (b - 2)) cwX11_guard (tb_mem 1087 (by decide +kernel) (by decide +kernel)) imX11_guard seX11_guard (by decide +kernel) (ci := 9) rfl (OB.at (ci := 9) (show shp 1 = (19, 0) by decide +kernel) (by decide)) (Nat.le_refl _) (by omega) rfl rfl (by simp [oneSlot]) (Nat.le_of_ble_eq_true rfl) rfl rfl (by decide +kernel) (by decide +kernel) (by decide +kernel) (by decide) (fun j z hz => match j, hz with
    | 0, hz => by
      have hz : some _ = some z := hz
      cases hz
      exact Or.inr ⟨4, (by decide +kernel), by decide, (by decide +kernel), (by decide +kernel)⟩
    | 1, hz => by
      have hz : some _ = some z := hz
      cases hz
      exact Or.inr ⟨4, (by decide +kernel), by decide, (by decide +kernel), (by decide +kernel)⟩
    | j + 2, hz => by
      have hz : none = some z := hz
      cases hz) (Ct.mono hC fun o h' hk => CK.aft hr (fun v g1 ha => ?_) k1 hk)
  show AW Γ l mL_guard (d2 + 1) (b - 2) 8 [vR 1, vI x0, vI x1, vR 190, vU] [vI v, vI 0, vR 190] (stt g1) K
  refine aw_i2l (by decide +kernel) ?_
  refine aw_last (t := 190) (j := 0) (n := 1) (by decide +kernel) (isA_lit (show shp 190 = (3, 1) by decide +kernel) (by decide)) (by decide +kernel) (by decide +kernel) ?_
  rw [wr_0]
  refine aw_goto (off := 11) (tgt := 21) (by decide +kernel) (by decide) ?_
  refine aw_iconst (n := 0) (by decide +kernel) ?_
  exact aw_iret (by decide +kernel) rfl (k0 v g1 ha)
abbrev mL_noise : MT := (RL, cL_noise, 4, some .int, "noise", [(0, 9, 12, 13)])
theorem cwL_noise {M : MT} {i : Nat} : callWH M i yL_noise mL_noise 3 := ⟨(tb_mem 1093 (by decide +kernel) (by decide +kernel)), (tb_mem 0 (by decide +kernel) (by decide +kernel)), ⟨(by decide +kernel), (by decide +kernel)⟩, (by decide +kernel), by decide⟩
theorem stL_noise : Cond.static yL_noise ∈ gw := (tb_mem 1092 (by decide +kernel) (by decide +kernel))
set_option maxHeartbeats 1000000 in
theorem w_noise {Γ : Cfg} {l : Launch} {d2 b : Nat} {g : GG} {x0 : Int} {K : Ou → HP → Prop} {A : Int → Int → GG → Prop} (hb : 1 ≤ b) (hr : ∀ c v g1, A c v g1 → 0 ≤ c ∧ c ≤ ([eIA] : List String).length) (hC : Ct Γ l d2 1 yX11_noise mX11_noise [vR 1, vI x0] (stt g) (CK [eIA] A)) (k0 : ∀ v g1, A 0 v g1 → K (.inl (vI 0)) (stt (upd2 g1 190 0 (wr v)))) (k1 : ∀ c v g1, A c v g1 → 0 < c → K (.inl (vI c)) (stt g1)) : CtH Γ l (d2 + 1) b yL_noise mL_noise [vR 1, vI x0, vR 190] (stt g) K := by
  refine CtH.enter (L := [vR 1, vI x0, vR 190, vU]) rfl rfl (by decide +kernel) (by simp [oneSlot]) (Nat.le_of_ble_eq_true rfl) rfl ?_
  refine aw_aload_n (k' := 2) (by decide +kernel) rfl ?_
  refine aw_iconst (n := 0) (by decide +kernel) ?_
  refine aw_aload_n (k' := 0) (by decide +kernel) rfl ?_
  refine aw_iload_n (k' := 1) (by decide +kernel) rfl ?_
  refine aw_callVH (y := yX11_noise) (M2 := mX11_noise) (as := [vI x0]) (S := [vI 0, vR 190]) (nms := [eIA]) (idx := 63) (t := 1) (d2 := d2) (b2 := 1) (b3 := (b - 1)) cwX11_noise (tb_mem 1094 (by decide +kernel) (by decide +kernel)) imX11_noise seX11_noise (by decide +kernel) (ci := 9) rfl (OB.at (ci := 9) (show shp 1 = (19, 0) by decide +kernel) (by decide)) (Nat.le_refl _) (by omega) rfl rfl (by simp [oneSlot]) (Nat.le_of_ble_eq_true rfl) rfl rfl (by decide +kernel) (by decide +kernel) (by decide +kernel) (by decide) (fun j z hz => match j, hz with
    | 0, hz => by
      have hz : some _ = some z := hz
      cases hz
      exact Or.inl ⟨3, (by decide +kernel), by decide, (by decide +kernel), (by decide +kernel)⟩
    | j + 1, hz => by
      have hz : none = some z := hz
      cases hz) (Ct.mono hC fun o h' hk => CK.aft hr (fun v g1 ha => ?_) k1 hk)
  show AW Γ l mL_noise (d2 + 1) (b - 1) 7 [vR 1, vI x0, vR 190, vU] [vI v, vI 0, vR 190] (stt g1) K
  refine aw_i2l (by decide +kernel) ?_
  refine aw_last (t := 190) (j := 0) (n := 1) (by decide +kernel) (isA_lit (show shp 190 = (3, 1) by decide +kernel) (by decide)) (by decide +kernel) (by decide +kernel) ?_
  rw [wr_0]
  refine aw_goto (off := 6) (tgt := 15) (by decide +kernel) (by decide) ?_
  refine aw_iconst (n := 0) (by decide +kernel) ?_
  exact aw_iret (by decide +kernel) rfl (k0 v g1 ha)
abbrev mL_turn : MT := (RL, cL_turn, 5, some .int, "turn", [(0, 10, 13, 24), (0, 10, 17, 13)])
theorem cwL_turn {M : MT} {i : Nat} : callWH M i yL_turn mL_turn 4 := ⟨(tb_mem 1100 (by decide +kernel) (by decide +kernel)), (tb_mem 0 (by decide +kernel) (by decide +kernel)), ⟨(by decide +kernel), (by decide +kernel)⟩, (by decide +kernel), by decide⟩
theorem stL_turn : Cond.static yL_turn ∈ gw := (tb_mem 1099 (by decide +kernel) (by decide +kernel))
set_option maxHeartbeats 1000000 in
theorem w_turn {Γ : Cfg} {l : Launch} {d2 b : Nat} {g : GG} {x0 x1 : Int} {K : Ou → HP → Prop} {A : Int → Int → GG → Prop} (hb : 2 ≤ b) (hr : ∀ c v g1, A c v g1 → 0 ≤ c ∧ c ≤ ([eIO, eIA] : List String).length) (hC : Ct Γ l d2 2 yX11_turn mX11_turn [vR 1, vI x0, vI x1] (stt g) (CK [eIO, eIA] A)) (k0 : ∀ v g1, A 0 v g1 → K (.inl (vI 0)) (stt (upd2 g1 190 0 (wr v)))) (k1 : ∀ c v g1, A c v g1 → 0 < c → K (.inl (vI c)) (stt g1)) : CtH Γ l (d2 + 1) b yL_turn mL_turn [vR 1, vI x0, vI x1, vR 190] (stt g) K := by
  refine CtH.enter (L := [vR 1, vI x0, vI x1, vR 190, vU]) rfl rfl (by decide +kernel) (by simp [oneSlot]) (Nat.le_of_ble_eq_true rfl) rfl ?_
  refine aw_aload_n (k' := 3) (by decide +kernel) rfl ?_
  refine aw_iconst (n := 0) (by decide +kernel) ?_
  refine aw_aload_n (k' := 0) (by decide +kernel) rfl ?_
  refine aw_iload_n (k' := 1) (by decide +kernel) rfl ?_
  refine aw_iload_n (k' := 2) (by decide +kernel) rfl ?_
  refine aw_callVH (y := yX11_turn) (M2 := mX11_turn) (as := [vI x0, vI x1]) (S := [vI 0, vR 190]) (nms := [eIO, eIA]) (idx := 66) (t := 1) (d2 := d2) (b2 := 2) (b3 := (b - 2)) cwX11_turn (tb_mem 1101 (by decide +kernel) (by decide +kernel)) imX11_turn seX11_turn (by decide +kernel) (ci := 9) rfl (OB.at (ci := 9) (show shp 1 = (19, 0) by decide +kernel) (by decide)) (Nat.le_refl _) (by omega) rfl rfl (by simp [oneSlot]) (Nat.le_of_ble_eq_true rfl) rfl rfl (by decide +kernel) (by decide +kernel) (by decide +kernel) (by decide) (fun j z hz => match j, hz with
    | 0, hz => by
      have hz : some _ = some z := hz
      cases hz
      exact Or.inr ⟨4, (by decide +kernel), by decide, (by decide +kernel), (by decide +kernel)⟩
    | 1, hz => by
      have hz : some _ = some z := hz
      cases hz
      exact Or.inr ⟨4, (by decide +kernel), by decide, (by decide +kernel), (by decide +kernel)⟩
    | j + 2, hz => by
      have hz : none = some z := hz
      cases hz) (Ct.mono hC fun o h' hk => CK.aft hr (fun v g1 ha => ?_) k1 hk)
  show AW Γ l mL_turn (d2 + 1) (b - 2) 8 [vR 1, vI x0, vI x1, vR 190, vU] [vI v, vI 0, vR 190] (stt g1) K
  refine aw_i2l (by decide +kernel) ?_
  refine aw_last (t := 190) (j := 0) (n := 1) (by decide +kernel) (isA_lit (show shp 190 = (3, 1) by decide +kernel) (by decide)) (by decide +kernel) (by decide +kernel) ?_
  rw [wr_0]
  refine aw_goto (off := 11) (tgt := 21) (by decide +kernel) (by decide) ?_
  refine aw_iconst (n := 0) (by decide +kernel) ?_
  exact aw_iret (by decide +kernel) rfl (k0 v g1 ha)
abbrev mL_repeat : MT := (RL, cL_repeat, 5, some .int, "repeat", [(0, 10, 13, 24), (0, 10, 17, 13), (0, 10, 21, 49)])
theorem cwL_repeat {M : MT} {i : Nat} : callWH M i yL_repeat mL_repeat 4 := ⟨(tb_mem 1107 (by decide +kernel) (by decide +kernel)), (tb_mem 0 (by decide +kernel) (by decide +kernel)), ⟨(by decide +kernel), (by decide +kernel)⟩, (by decide +kernel), by decide⟩
theorem stL_repeat : Cond.static yL_repeat ∈ gw := (tb_mem 1106 (by decide +kernel) (by decide +kernel))
set_option maxHeartbeats 1000000 in
theorem w_repeat {Γ : Cfg} {l : Launch} {d2 b : Nat} {g : GG} {x0 x1 : Int} {K : Ou → HP → Prop} {A : Int → Int → GG → Prop} (hb : 4 ≤ b) (hr : ∀ c v g1, A c v g1 → 0 ≤ c ∧ c ≤ ([eIO, eIA, eIS] : List String).length) (hC : Ct Γ l d2 4 yX11_repeat mX11_repeat [vR 1, vI x0, vI x1] (stt g) (CK [eIO, eIA, eIS] A)) (k0 : ∀ v g1, A 0 v g1 → K (.inl (vI 0)) (stt (upd2 g1 190 0 (wr v)))) (k1 : ∀ c v g1, A c v g1 → 0 < c → K (.inl (vI c)) (stt g1)) : CtH Γ l (d2 + 1) b yL_repeat mL_repeat [vR 1, vI x0, vI x1, vR 190] (stt g) K := by
  refine CtH.enter (L := [vR 1, vI x0, vI x1, vR 190, vU]) rfl rfl (by decide +kernel) (by simp [oneSlot]) (Nat.le_of_ble_eq_true rfl) rfl ?_
  refine aw_aload_n (k' := 3) (by decide +kernel) rfl ?_
  refine aw_iconst (n := 0) (by decide +kernel) ?_
  refine aw_aload_n (k' := 0) (by decide +kernel) rfl ?_
  refine aw_iload_n (k' := 1) (by decide +kernel) rfl ?_
  refine aw_iload_n (k' := 2) (by decide +kernel) rfl ?_
  refine aw_callVH (y := yX11_repeat) (M2 := mX11_repeat) (as := [vI x0, vI x1]) (S := [vI 0, vR 190]) (nms := [eIO, eIA, eIS]) (idx := 69) (t := 1) (d2 := d2) (b2 := 4) (b3 := (b - 4)) cwX11_repeat (tb_mem 1108 (by decide +kernel) (by decide +kernel)) imX11_repeat seX11_repeat (by decide +kernel) (ci := 9) rfl (OB.at (ci := 9) (show shp 1 = (19, 0) by decide +kernel) (by decide)) (Nat.le_refl _) (by omega) rfl rfl (by simp [oneSlot]) (Nat.le_of_ble_eq_true rfl) rfl rfl (by decide +kernel) (by decide +kernel) (by decide +kernel) (by decide) (fun j z hz => match j, hz with
    | 0, hz => by
      have hz : some _ = some z := hz
      cases hz
      exact Or.inr ⟨4, (by decide +kernel), by decide, (by decide +kernel), (by decide +kernel)⟩
    | 1, hz => by
      have hz : some _ = some z := hz
      cases hz
      exact Or.inr ⟨4, (by decide +kernel), by decide, (by decide +kernel), (by decide +kernel)⟩
    | 2, hz => by
      have hz : some _ = some z := hz
      cases hz
      exact Or.inr ⟨4, (by decide +kernel), by decide, (by decide +kernel), (by decide +kernel)⟩
    | j + 3, hz => by
      have hz : none = some z := hz
      cases hz) (Ct.mono hC fun o h' hk => CK.aft hr (fun v g1 ha => ?_) k1 hk)
  show AW Γ l mL_repeat (d2 + 1) (b - 4) 8 [vR 1, vI x0, vI x1, vR 190, vU] [vI v, vI 0, vR 190] (stt g1) K
  refine aw_i2l (by decide +kernel) ?_
  refine aw_last (t := 190) (j := 0) (n := 1) (by decide +kernel) (isA_lit (show shp 190 = (3, 1) by decide +kernel) (by decide)) (by decide +kernel) (by decide +kernel) ?_
  rw [wr_0]
  refine aw_goto (off := 15) (tgt := 25) (by decide +kernel) (by decide) ?_
  refine aw_iconst (n := 0) (by decide +kernel) ?_
  exact aw_iret (by decide +kernel) rfl (k0 v g1 ha)
abbrev mL_order : MT := (RL, cL_order, 5, some .int, "order", [(0, 10, 13, 24)])
theorem cwL_order {M : MT} {i : Nat} : callWH M i yL_order mL_order 4 := ⟨(tb_mem 1122 (by decide +kernel) (by decide +kernel)), (tb_mem 0 (by decide +kernel) (by decide +kernel)), ⟨(by decide +kernel), (by decide +kernel)⟩, (by decide +kernel), by decide⟩
theorem stL_order : Cond.static yL_order ∈ gw := (tb_mem 1121 (by decide +kernel) (by decide +kernel))
set_option maxHeartbeats 1000000 in
theorem w_order {Γ : Cfg} {l : Launch} {d2 b : Nat} {g : GG} {x0 x1 : Int} {K : Ou → HP → Prop} {A : Int → Int → GG → Prop} (hb : 1 ≤ b) (hr : ∀ c v g1, A c v g1 → 0 ≤ c ∧ c ≤ ([eIO] : List String).length) (hC : Ct Γ l d2 1 yX11_order mX11_order [vR 1, vI x0, vI x1] (stt g) (CK [eIO] A)) (k0 : ∀ v g1, A 0 v g1 → K (.inl (vI 0)) (stt (upd2 g1 190 0 (wr v)))) (k1 : ∀ c v g1, A c v g1 → 0 < c → K (.inl (vI c)) (stt g1)) : CtH Γ l (d2 + 1) b yL_order mL_order [vR 1, vI x0, vI x1, vR 190] (stt g) K := by
  refine CtH.enter (L := [vR 1, vI x0, vI x1, vR 190, vU]) rfl rfl (by decide +kernel) (by simp [oneSlot]) (Nat.le_of_ble_eq_true rfl) rfl ?_
  refine aw_aload_n (k' := 3) (by decide +kernel) rfl ?_
  refine aw_iconst (n := 0) (by decide +kernel) ?_
  refine aw_aload_n (k' := 0) (by decide +kernel) rfl ?_
  refine aw_iload_n (k' := 1) (by decide +kernel) rfl ?_
  refine aw_iload_n (k' := 2) (by decide +kernel) rfl ?_
  refine aw_callVH (y := yX11_order) (M2 := mX11_order) (as := [vI x0, vI x1]) (S := [vI 0, vR 190]) (nms := [eIO]) (idx := 72) (t := 1) (d2 := d2) (b2 := 1) (b3 := (b - 1)) cwX11_order (tb_mem 1123 (by decide +kernel) (by decide +kernel)) imX11_order seX11_order (by decide +kernel) (ci := 9) rfl (OB.at (ci := 9) (show shp 1 = (19, 0) by decide +kernel) (by decide)) (Nat.le_refl _) (by omega) rfl rfl (by simp [oneSlot]) (Nat.le_of_ble_eq_true rfl) rfl rfl (by decide +kernel) (by decide +kernel) (by decide +kernel) (by decide) (fun j z hz => match j, hz with
    | 0, hz => by
      have hz : some _ = some z := hz
      cases hz
      exact Or.inr ⟨4, (by decide +kernel), by decide, (by decide +kernel), (by decide +kernel)⟩
    | j + 1, hz => by
      have hz : none = some z := hz
      cases hz) (Ct.mono hC fun o h' hk => CK.aft hr (fun v g1 ha => ?_) k1 hk)
  show AW Γ l mL_order (d2 + 1) (b - 1) 8 [vR 1, vI x0, vI x1, vR 190, vU] [vI v, vI 0, vR 190] (stt g1) K
  refine aw_i2l (by decide +kernel) ?_
  refine aw_last (t := 190) (j := 0) (n := 1) (by decide +kernel) (isA_lit (show shp 190 = (3, 1) by decide +kernel) (by decide)) (by decide +kernel) (by decide +kernel) ?_
  rw [wr_0]
  refine aw_goto (off := 7) (tgt := 17) (by decide +kernel) (by decide) ?_
  refine aw_iconst (n := 0) (by decide +kernel) ?_
  exact aw_iret (by decide +kernel) rfl (k0 v g1 ha)
abbrev mL_fence : MT := (RL, cL_fence, 5, some .int, "fence", [(0, 10, 13, 24), (0, 10, 17, 13)])
theorem cwL_fence {M : MT} {i : Nat} : callWH M i yL_fence mL_fence 4 := ⟨(tb_mem 1155 (by decide +kernel) (by decide +kernel)), (tb_mem 0 (by decide +kernel) (by decide +kernel)), ⟨(by decide +kernel), (by decide +kernel)⟩, (by decide +kernel), by decide⟩
theorem stL_fence : Cond.static yL_fence ∈ gw := (tb_mem 1154 (by decide +kernel) (by decide +kernel))
set_option maxHeartbeats 1000000 in
theorem w_fence {Γ : Cfg} {l : Launch} {d2 b : Nat} {g : GG} {x0 x1 : Int} {K : Ou → HP → Prop} {A : Int → Int → GG → Prop} (hb : 4 ≤ b) (hr : ∀ c v g1, A c v g1 → 0 ≤ c ∧ c ≤ ([eIO, eIA] : List String).length) (hC : Ct Γ l d2 4 yX11_fence mX11_fence [vR 1, vI x0, vI x1] (stt g) (CK [eIO, eIA] A)) (k0 : ∀ v g1, A 0 v g1 → K (.inl (vI 0)) (stt (upd2 g1 190 0 (wr v)))) (k1 : ∀ c v g1, A c v g1 → 0 < c → K (.inl (vI c)) (stt g1)) : CtH Γ l (d2 + 1) b yL_fence mL_fence [vR 1, vI x0, vI x1, vR 190] (stt g) K := by
  refine CtH.enter (L := [vR 1, vI x0, vI x1, vR 190, vU]) rfl rfl (by decide +kernel) (by simp [oneSlot]) (Nat.le_of_ble_eq_true rfl) rfl ?_
  refine aw_aload_n (k' := 3) (by decide +kernel) rfl ?_
  refine aw_iconst (n := 0) (by decide +kernel) ?_
  refine aw_aload_n (k' := 0) (by decide +kernel) rfl ?_
  refine aw_iload_n (k' := 1) (by decide +kernel) rfl ?_
  refine aw_iload_n (k' := 2) (by decide +kernel) rfl ?_
  refine aw_callVH (y := yX11_fence) (M2 := mX11_fence) (as := [vI x0, vI x1]) (S := [vI 0, vR 190]) (nms := [eIO, eIA]) (idx := 75) (t := 1) (d2 := d2) (b2 := 4) (b3 := (b - 4)) cwX11_fence (tb_mem 1156 (by decide +kernel) (by decide +kernel)) imX11_fence seX11_fence (by decide +kernel) (ci := 9) rfl (OB.at (ci := 9) (show shp 1 = (19, 0) by decide +kernel) (by decide)) (Nat.le_refl _) (by omega) rfl rfl (by simp [oneSlot]) (Nat.le_of_ble_eq_true rfl) rfl rfl (by decide +kernel) (by decide +kernel) (by decide +kernel) (by decide) (fun j z hz => match j, hz with
    | 0, hz => by
      have hz : some _ = some z := hz
      cases hz
      exact Or.inr ⟨4, (by decide +kernel), by decide, (by decide +kernel), (by decide +kernel)⟩
    | 1, hz => by
      have hz : some _ = some z := hz
      cases hz
      exact Or.inr ⟨4, (by decide +kernel), by decide, (by decide +kernel), (by decide +kernel)⟩
    | j + 2, hz => by
      have hz : none = some z := hz
      cases hz) (Ct.mono hC fun o h' hk => CK.aft hr (fun v g1 ha => ?_) k1 hk)
  show AW Γ l mL_fence (d2 + 1) (b - 4) 8 [vR 1, vI x0, vI x1, vR 190, vU] [vI v, vI 0, vR 190] (stt g1) K
  refine aw_i2l (by decide +kernel) ?_
  refine aw_last (t := 190) (j := 0) (n := 1) (by decide +kernel) (isA_lit (show shp 190 = (3, 1) by decide +kernel) (by decide)) (by decide +kernel) (by decide +kernel) ?_
  rw [wr_0]
  refine aw_goto (off := 11) (tgt := 21) (by decide +kernel) (by decide) ?_
  refine aw_iconst (n := 0) (by decide +kernel) ?_
  exact aw_iret (by decide +kernel) rfl (k0 v g1 ha)
abbrev mL_gainsay : MT := (RL, cL_gainsay, 5, some .int, "gainsay", [(0, 17, 20, 24), (0, 17, 24, 13)])
theorem cwL_gainsay {M : MT} {i : Nat} : callWH M i yL_gainsay mL_gainsay 4 := ⟨(tb_mem 1166 (by decide +kernel) (by decide +kernel)), (tb_mem 0 (by decide +kernel) (by decide +kernel)), ⟨(by decide +kernel), (by decide +kernel)⟩, (by decide +kernel), by decide⟩
theorem stL_gainsay : Cond.static yL_gainsay ∈ gw := (tb_mem 1165 (by decide +kernel) (by decide +kernel))
set_option maxHeartbeats 1000000 in
theorem w_gainsay {Γ : Cfg} {l : Launch} {d2 b : Nat} {g : GG} {x0 x1 : Int} {K : Ou → HP → Prop} {A : Int → Int → GG → Prop} (hb : 3 ≤ b) (hr : ∀ c v g1, A c v g1 → 0 ≤ c ∧ c ≤ ([eIO, eIA] : List String).length) (hC : Ct Γ l d2 3 yX11_gainsay mX11_gainsay [vR 1, vI x0, vI x1] (stt g) (CK [eIO, eIA] A)) (k0 : ∀ v g1, A 0 v g1 → K (.inl (vI 0)) (stt (upd2 g1 190 0 (if wr v = 0 then 0 else 1)))) (k1 : ∀ c v g1, A c v g1 → 0 < c → K (.inl (vI c)) (stt g1)) : CtH Γ l (d2 + 1) b yL_gainsay mL_gainsay [vR 1, vI x0, vI x1, vR 190] (stt g) K := by
  refine CtH.enter (L := [vR 1, vI x0, vI x1, vR 190, vU]) rfl rfl (by decide +kernel) (by simp [oneSlot]) (Nat.le_of_ble_eq_true rfl) rfl ?_
  refine aw_aload_n (k' := 3) (by decide +kernel) rfl ?_
  refine aw_iconst (n := 0) (by decide +kernel) ?_
  refine aw_aload_n (k' := 0) (by decide +kernel) rfl ?_
  refine aw_iload_n (k' := 1) (by decide +kernel) rfl ?_
  refine aw_iload_n (k' := 2) (by decide +kernel) rfl ?_
  refine aw_callVH (y := yX11_gainsay) (M2 := mX11_gainsay) (as := [vI x0, vI x1]) (S := [vI 0, vR 190]) (nms := [eIO, eIA]) (idx := 78) (t := 1) (d2 := d2) (b2 := 3) (b3 := (b - 3)) cwX11_gainsay (tb_mem 1167 (by decide +kernel) (by decide +kernel)) imX11_gainsay seX11_gainsay (by decide +kernel) (ci := 9) rfl (OB.at (ci := 9) (show shp 1 = (19, 0) by decide +kernel) (by decide)) (Nat.le_refl _) (by omega) rfl rfl (by simp [oneSlot]) (Nat.le_of_ble_eq_true rfl) rfl rfl (by decide +kernel) (by decide +kernel) (by decide +kernel) (by decide) (fun j z hz => match j, hz with
    | 0, hz => by
      have hz : some _ = some z := hz
      cases hz
      exact Or.inr ⟨4, (by decide +kernel), by decide, (by decide +kernel), (by decide +kernel)⟩
    | 1, hz => by
      have hz : some _ = some z := hz
      cases hz
      exact Or.inr ⟨4, (by decide +kernel), by decide, (by decide +kernel), (by decide +kernel)⟩
    | j + 2, hz => by
      have hz : none = some z := hz
      cases hz) (Ct.mono hC fun o h' hk => CK.aft hr (fun v g1 ha => ?_) k1 hk)
  show AW Γ l mL_gainsay (d2 + 1) (b - 3) 8 [vR 1, vI x0, vI x1, vR 190, vU] [vI v, vI 0, vR 190] (stt g1) K
  refine ax_if_eq (off := 7) (tgt := 15) (x' := wr v) (by decide +kernel) (by decide) rfl (fun hc => ?_) (fun hc => ?_)
  · refine aw_lconst (n := 0) (by decide +kernel) ?_
    refine aw_last (t := 190) (j := 0) (n := 1) (by decide +kernel) (isA_lit (show shp 190 = (3, 1) by decide +kernel) (by decide)) (by decide +kernel) (by decide +kernel) ?_
    rw [wr_0]
    refine aw_goto (off := 11) (tgt := 28) (by decide +kernel) (by decide) ?_
    refine aw_iconst (n := 0) (by decide +kernel) ?_
    exact aw_iret (by decide +kernel) rfl (by have e := k0 v g1 ha; rw [if_pos hc] at e; exact e)
  · refine aw_lconst (n := 1) (by decide +kernel) ?_
    refine aw_goto (off := 4) (tgt := 16) (by decide +kernel) (by decide) ?_
    refine aw_last (t := 190) (j := 0) (n := 1) (by decide +kernel) (isA_lit (show shp 190 = (3, 1) by decide +kernel) (by decide)) (by decide +kernel) (by decide +kernel) ?_
    rw [wr_0]
    refine aw_goto (off := 11) (tgt := 28) (by decide +kernel) (by decide) ?_
    refine aw_iconst (n := 0) (by decide +kernel) ?_
    exact aw_iret (by decide +kernel) rfl (by have e := k0 v g1 ha; rw [if_neg hc] at e; exact e)
abbrev mL_whose : MT := (RL, cL_whose, 3, some .int, "whose", [(0, 8, 11, 13)])
theorem cwL_whose {M : MT} {i : Nat} : callWH M i yL_whose mL_whose 2 := ⟨(tb_mem 1173 (by decide +kernel) (by decide +kernel)), (tb_mem 0 (by decide +kernel) (by decide +kernel)), ⟨(by decide +kernel), (by decide +kernel)⟩, (by decide +kernel), by decide⟩
theorem stL_whose : Cond.static yL_whose ∈ gw := (tb_mem 1172 (by decide +kernel) (by decide +kernel))
set_option maxHeartbeats 1000000 in
theorem w_whose {Γ : Cfg} {l : Launch} {d2 b : Nat} {g : GG} {K : Ou → HP → Prop} {A : Int → Int → GG → Prop} (hb : 1 ≤ b) (hr : ∀ c v g1, A c v g1 → 0 ≤ c ∧ c ≤ ([eIA] : List String).length) (hC : Ct Γ l d2 1 yX11_whose mX11_whose [vR 1] (stt g) (CK [eIA] A)) (k0 : ∀ v g1, A 0 v g1 → K (.inl (vI 0)) (stt (upd2 g1 190 0 (wr v)))) (k1 : ∀ c v g1, A c v g1 → 0 < c → K (.inl (vI c)) (stt g1)) : CtH Γ l (d2 + 1) b yL_whose mL_whose [vR 1, vR 190] (stt g) K := by
  refine CtH.enter (L := [vR 1, vR 190, vU]) rfl rfl (by decide +kernel) (by simp [oneSlot]) (Nat.le_of_ble_eq_true rfl) rfl ?_
  refine aw_aload_n (k' := 1) (by decide +kernel) rfl ?_
  refine aw_iconst (n := 0) (by decide +kernel) ?_
  refine aw_aload_n (k' := 0) (by decide +kernel) rfl ?_
  refine aw_callVH (y := yX11_whose) (M2 := mX11_whose) (as := []) (S := [vI 0, vR 190]) (nms := [eIA]) (idx := 82) (t := 1) (d2 := d2) (b2 := 1) (b3 := (b - 1)) cwX11_whose (tb_mem 1174 (by decide +kernel) (by decide +kernel)) imX11_whose seX11_whose (by decide +kernel) (ci := 9) rfl (OB.at (ci := 9) (show shp 1 = (19, 0) by decide +kernel) (by decide)) (Nat.le_refl _) (by omega) rfl rfl (by simp [oneSlot]) (Nat.le_of_ble_eq_true rfl) rfl rfl (by decide +kernel) (by decide +kernel) (by decide +kernel) (by decide) (fun j z hz => match j, hz with
    | 0, hz => by
      have hz : some _ = some z := hz
      cases hz
      exact Or.inl ⟨2, (by decide +kernel), by decide, (by decide +kernel), (by decide +kernel)⟩
    | j + 1, hz => by
      have hz : none = some z := hz
      cases hz) (Ct.mono hC fun o h' hk => CK.aft hr (fun v g1 ha => ?_) k1 hk)
  show AW Γ l mL_whose (d2 + 1) (b - 1) 6 [vR 1, vR 190, vU] [vI v, vI 0, vR 190] (stt g1) K
  refine aw_i2l (by decide +kernel) ?_
  refine aw_last (t := 190) (j := 0) (n := 1) (by decide +kernel) (isA_lit (show shp 190 = (3, 1) by decide +kernel) (by decide)) (by decide +kernel) (by decide +kernel) ?_
  rw [wr_0]
  refine aw_goto (off := 6) (tgt := 14) (by decide +kernel) (by decide) ?_
  refine aw_iconst (n := 0) (by decide +kernel) ?_
  exact aw_iret (by decide +kernel) rfl (k0 v g1 ha)
abbrev mL_likely : MT := (RL, cL_likely, 3, some .int, "likely", [(0, 8, 11, 13)])
theorem cwL_likely {M : MT} {i : Nat} : callWH M i yL_likely mL_likely 2 := ⟨(tb_mem 1194 (by decide +kernel) (by decide +kernel)), (tb_mem 0 (by decide +kernel) (by decide +kernel)), ⟨(by decide +kernel), (by decide +kernel)⟩, (by decide +kernel), by decide⟩
theorem stL_likely : Cond.static yL_likely ∈ gw := (tb_mem 1193 (by decide +kernel) (by decide +kernel))
set_option maxHeartbeats 1000000 in
theorem w_likely {Γ : Cfg} {l : Launch} {d2 b : Nat} {g : GG} {K : Ou → HP → Prop} {A : Int → Int → GG → Prop} (hb : 2 ≤ b) (hr : ∀ c v g1, A c v g1 → 0 ≤ c ∧ c ≤ ([eIA] : List String).length) (hC : Ct Γ l d2 2 yX11_likely mX11_likely [vR 1] (stt g) (CK [eIA] A)) (k0 : ∀ v g1, A 0 v g1 → K (.inl (vI 0)) (stt (upd2 g1 190 0 (wr v)))) (k1 : ∀ c v g1, A c v g1 → 0 < c → K (.inl (vI c)) (stt g1)) : CtH Γ l (d2 + 1) b yL_likely mL_likely [vR 1, vR 190] (stt g) K := by
  refine CtH.enter (L := [vR 1, vR 190, vU]) rfl rfl (by decide +kernel) (by simp [oneSlot]) (Nat.le_of_ble_eq_true rfl) rfl ?_
  refine aw_aload_n (k' := 1) (by decide +kernel) rfl ?_
  refine aw_iconst (n := 0) (by decide +kernel) ?_
  refine aw_aload_n (k' := 0) (by decide +kernel) rfl ?_
  refine aw_callVH (y := yX11_likely) (M2 := mX11_likely) (as := []) (S := [vI 0, vR 190]) (nms := [eIA]) (idx := 85) (t := 1) (d2 := d2) (b2 := 2) (b3 := (b - 2)) cwX11_likely (tb_mem 1195 (by decide +kernel) (by decide +kernel)) imX11_likely seX11_likely (by decide +kernel) (ci := 9) rfl (OB.at (ci := 9) (show shp 1 = (19, 0) by decide +kernel) (by decide)) (Nat.le_refl _) (by omega) rfl rfl (by simp [oneSlot]) (Nat.le_of_ble_eq_true rfl) rfl rfl (by decide +kernel) (by decide +kernel) (by decide +kernel) (by decide) (fun j z hz => match j, hz with
    | 0, hz => by
      have hz : some _ = some z := hz
      cases hz
      exact Or.inl ⟨2, (by decide +kernel), by decide, (by decide +kernel), (by decide +kernel)⟩
    | j + 1, hz => by
      have hz : none = some z := hz
      cases hz) (Ct.mono hC fun o h' hk => CK.aft hr (fun v g1 ha => ?_) k1 hk)
  show AW Γ l mL_likely (d2 + 1) (b - 2) 6 [vR 1, vR 190, vU] [vI v, vI 0, vR 190] (stt g1) K
  refine aw_i2l (by decide +kernel) ?_
  refine aw_last (t := 190) (j := 0) (n := 1) (by decide +kernel) (isA_lit (show shp 190 = (3, 1) by decide +kernel) (by decide)) (by decide +kernel) (by decide +kernel) ?_
  rw [wr_0]
  refine aw_goto (off := 6) (tgt := 14) (by decide +kernel) (by decide) ?_
  refine aw_iconst (n := 0) (by decide +kernel) ?_
  exact aw_iret (by decide +kernel) rfl (k0 v g1 ha)
abbrev mL_ask : MT := (RL, cL_ask, 3, some .int, "ask", [(0, 8, 11, 13)])
theorem cwL_ask {M : MT} {i : Nat} : callWH M i yL_ask mL_ask 2 := ⟨(tb_mem 1201 (by decide +kernel) (by decide +kernel)), (tb_mem 0 (by decide +kernel) (by decide +kernel)), ⟨(by decide +kernel), (by decide +kernel)⟩, (by decide +kernel), by decide⟩
theorem stL_ask : Cond.static yL_ask ∈ gw := (tb_mem 1200 (by decide +kernel) (by decide +kernel))
set_option maxHeartbeats 1000000 in
theorem w_ask {Γ : Cfg} {l : Launch} {d2 b : Nat} {g : GG} {K : Ou → HP → Prop} {A : Int → Int → GG → Prop} (hb : 2 ≤ b) (hr : ∀ c v g1, A c v g1 → 0 ≤ c ∧ c ≤ ([eIA] : List String).length) (hC : Ct Γ l d2 2 yX11_ask mX11_ask [vR 1] (stt g) (CK [eIA] A)) (k0 : ∀ v g1, A 0 v g1 → K (.inl (vI 0)) (stt (upd2 g1 190 0 (wr v)))) (k1 : ∀ c v g1, A c v g1 → 0 < c → K (.inl (vI c)) (stt g1)) : CtH Γ l (d2 + 1) b yL_ask mL_ask [vR 1, vR 190] (stt g) K := by
  refine CtH.enter (L := [vR 1, vR 190, vU]) rfl rfl (by decide +kernel) (by simp [oneSlot]) (Nat.le_of_ble_eq_true rfl) rfl ?_
  refine aw_aload_n (k' := 1) (by decide +kernel) rfl ?_
  refine aw_iconst (n := 0) (by decide +kernel) ?_
  refine aw_aload_n (k' := 0) (by decide +kernel) rfl ?_
  refine aw_callVH (y := yX11_ask) (M2 := mX11_ask) (as := []) (S := [vI 0, vR 190]) (nms := [eIA]) (idx := 88) (t := 1) (d2 := d2) (b2 := 2) (b3 := (b - 2)) cwX11_ask (tb_mem 1202 (by decide +kernel) (by decide +kernel)) imX11_ask seX11_ask (by decide +kernel) (ci := 9) rfl (OB.at (ci := 9) (show shp 1 = (19, 0) by decide +kernel) (by decide)) (Nat.le_refl _) (by omega) rfl rfl (by simp [oneSlot]) (Nat.le_of_ble_eq_true rfl) rfl rfl (by decide +kernel) (by decide +kernel) (by decide +kernel) (by decide) (fun j z hz => match j, hz with
    | 0, hz => by
      have hz : some _ = some z := hz
      cases hz
      exact Or.inl ⟨2, (by decide +kernel), by decide, (by decide +kernel), (by decide +kernel)⟩
    | j + 1, hz => by
      have hz : none = some z := hz
      cases hz) (Ct.mono hC fun o h' hk => CK.aft hr (fun v g1 ha => ?_) k1 hk)
  show AW Γ l mL_ask (d2 + 1) (b - 2) 6 [vR 1, vR 190, vU] [vI v, vI 0, vR 190] (stt g1) K
  refine aw_i2l (by decide +kernel) ?_
  refine aw_last (t := 190) (j := 0) (n := 1) (by decide +kernel) (isA_lit (show shp 190 = (3, 1) by decide +kernel) (by decide)) (by decide +kernel) (by decide +kernel) ?_
  rw [wr_0]
  refine aw_goto (off := 6) (tgt := 14) (by decide +kernel) (by decide) ?_
  refine aw_iconst (n := 0) (by decide +kernel) ?_
  exact aw_iret (by decide +kernel) rfl (k0 v g1 ha)
abbrev mL_coughs : MT := (RL, cL_coughs, 4, some .int, "coughs", [(0, 16, 19, 13)])
theorem cwL_coughs {M : MT} {i : Nat} : callWH M i yL_coughs mL_coughs 3 := ⟨(tb_mem 1213 (by decide +kernel) (by decide +kernel)), (tb_mem 0 (by decide +kernel) (by decide +kernel)), ⟨(by decide +kernel), (by decide +kernel)⟩, (by decide +kernel), by decide⟩
theorem stL_coughs : Cond.static yL_coughs ∈ gw := (tb_mem 1212 (by decide +kernel) (by decide +kernel))
set_option maxHeartbeats 1000000 in
theorem w_coughs {Γ : Cfg} {l : Launch} {d2 b : Nat} {g : GG} {x0 : Int} {K : Ou → HP → Prop} {A : Int → Int → GG → Prop} (hb : 1 ≤ b) (hr : ∀ c v g1, A c v g1 → 0 ≤ c ∧ c ≤ ([eIA] : List String).length) (hC : Ct Γ l d2 1 yX11_coughs mX11_coughs [vR 1, vI x0] (stt g) (CK [eIA] A)) (k0 : ∀ v g1, A 0 v g1 → K (.inl (vI 0)) (stt (upd2 g1 190 0 (if wr v = 0 then 0 else 1)))) (k1 : ∀ c v g1, A c v g1 → 0 < c → K (.inl (vI c)) (stt g1)) : CtH Γ l (d2 + 1) b yL_coughs mL_coughs [vR 1, vI x0, vR 190] (stt g) K := by
  refine CtH.enter (L := [vR 1, vI x0, vR 190, vU]) rfl rfl (by decide +kernel) (by simp [oneSlot]) (Nat.le_of_ble_eq_true rfl) rfl ?_
  refine aw_aload_n (k' := 2) (by decide +kernel) rfl ?_
  refine aw_iconst (n := 0) (by decide +kernel) ?_
  refine aw_aload_n (k' := 0) (by decide +kernel) rfl ?_
  refine aw_iload_n (k' := 1) (by decide +kernel) rfl ?_
  refine aw_callVH (y := yX11_coughs) (M2 := mX11_coughs) (as := [vI x0]) (S := [vI 0, vR 190]) (nms := [eIA]) (idx := 91) (t := 1) (d2 := d2) (b2 := 1) (b3 := (b - 1)) cwX11_coughs (tb_mem 1214 (by decide +kernel) (by decide +kernel)) imX11_coughs seX11_coughs (by decide +kernel) (ci := 9) rfl (OB.at (ci := 9) (show shp 1 = (19, 0) by decide +kernel) (by decide)) (Nat.le_refl _) (by omega) rfl rfl (by simp [oneSlot]) (Nat.le_of_ble_eq_true rfl) rfl rfl (by decide +kernel) (by decide +kernel) (by decide +kernel) (by decide) (fun j z hz => match j, hz with
    | 0, hz => by
      have hz : some _ = some z := hz
      cases hz
      exact Or.inl ⟨3, (by decide +kernel), by decide, (by decide +kernel), (by decide +kernel)⟩
    | j + 1, hz => by
      have hz : none = some z := hz
      cases hz) (Ct.mono hC fun o h' hk => CK.aft hr (fun v g1 ha => ?_) k1 hk)
  show AW Γ l mL_coughs (d2 + 1) (b - 1) 7 [vR 1, vI x0, vR 190, vU] [vI v, vI 0, vR 190] (stt g1) K
  refine ax_if_eq (off := 7) (tgt := 14) (x' := wr v) (by decide +kernel) (by decide) rfl (fun hc => ?_) (fun hc => ?_)
  · refine aw_lconst (n := 0) (by decide +kernel) ?_
    refine aw_last (t := 190) (j := 0) (n := 1) (by decide +kernel) (isA_lit (show shp 190 = (3, 1) by decide +kernel) (by decide)) (by decide +kernel) (by decide +kernel) ?_
    rw [wr_0]
    refine aw_goto (off := 6) (tgt := 22) (by decide +kernel) (by decide) ?_
    refine aw_iconst (n := 0) (by decide +kernel) ?_
    exact aw_iret (by decide +kernel) rfl (by have e := k0 v g1 ha; rw [if_pos hc] at e; exact e)
  · refine aw_lconst (n := 1) (by decide +kernel) ?_
    refine aw_goto (off := 4) (tgt := 15) (by decide +kernel) (by decide) ?_
    refine aw_last (t := 190) (j := 0) (n := 1) (by decide +kernel) (isA_lit (show shp 190 = (3, 1) by decide +kernel) (by decide)) (by decide +kernel) (by decide +kernel) ?_
    rw [wr_0]
    refine aw_goto (off := 6) (tgt := 22) (by decide +kernel) (by decide) ?_
    refine aw_iconst (n := 0) (by decide +kernel) ?_
    exact aw_iret (by decide +kernel) rfl (by have e := k0 v g1 ha; rw [if_neg hc] at e; exact e)
abbrev mL_first : MT := (RL, cL_first, 4, some .int, "first", [(0, 9, 12, 13)])
theorem cwL_first {M : MT} {i : Nat} : callWH M i yL_first mL_first 3 := ⟨(tb_mem 1231 (by decide +kernel) (by decide +kernel)), (tb_mem 0 (by decide +kernel) (by decide +kernel)), ⟨(by decide +kernel), (by decide +kernel)⟩, (by decide +kernel), by decide⟩
theorem stL_first : Cond.static yL_first ∈ gw := (tb_mem 1230 (by decide +kernel) (by decide +kernel))
set_option maxHeartbeats 1000000 in
theorem w_first {Γ : Cfg} {l : Launch} {d2 b : Nat} {g : GG} {x0 : Int} {K : Ou → HP → Prop} {A : Int → Int → GG → Prop} (hb : 1 ≤ b) (hr : ∀ c v g1, A c v g1 → 0 ≤ c ∧ c ≤ ([eIA] : List String).length) (hC : Ct Γ l d2 1 yX11_first mX11_first [vR 1, vI x0] (stt g) (CK [eIA] A)) (k0 : ∀ v g1, A 0 v g1 → K (.inl (vI 0)) (stt (upd2 g1 190 0 (wr v)))) (k1 : ∀ c v g1, A c v g1 → 0 < c → K (.inl (vI c)) (stt g1)) : CtH Γ l (d2 + 1) b yL_first mL_first [vR 1, vI x0, vR 190] (stt g) K := by
  refine CtH.enter (L := [vR 1, vI x0, vR 190, vU]) rfl rfl (by decide +kernel) (by simp [oneSlot]) (Nat.le_of_ble_eq_true rfl) rfl ?_
  refine aw_aload_n (k' := 2) (by decide +kernel) rfl ?_
  refine aw_iconst (n := 0) (by decide +kernel) ?_
  refine aw_aload_n (k' := 0) (by decide +kernel) rfl ?_
  refine aw_iload_n (k' := 1) (by decide +kernel) rfl ?_
  refine aw_callVH (y := yX11_first) (M2 := mX11_first) (as := [vI x0]) (S := [vI 0, vR 190]) (nms := [eIA]) (idx := 95) (t := 1) (d2 := d2) (b2 := 1) (b3 := (b - 1)) cwX11_first (tb_mem 1232 (by decide +kernel) (by decide +kernel)) imX11_first seX11_first (by decide +kernel) (ci := 9) rfl (OB.at (ci := 9) (show shp 1 = (19, 0) by decide +kernel) (by decide)) (Nat.le_refl _) (by omega) rfl rfl (by simp [oneSlot]) (Nat.le_of_ble_eq_true rfl) rfl rfl (by decide +kernel) (by decide +kernel) (by decide +kernel) (by decide) (fun j z hz => match j, hz with
    | 0, hz => by
      have hz : some _ = some z := hz
      cases hz
      exact Or.inl ⟨3, (by decide +kernel), by decide, (by decide +kernel), (by decide +kernel)⟩
    | j + 1, hz => by
      have hz : none = some z := hz
      cases hz) (Ct.mono hC fun o h' hk => CK.aft hr (fun v g1 ha => ?_) k1 hk)
  show AW Γ l mL_first (d2 + 1) (b - 1) 7 [vR 1, vI x0, vR 190, vU] [vI v, vI 0, vR 190] (stt g1) K
  refine aw_i2l (by decide +kernel) ?_
  refine aw_last (t := 190) (j := 0) (n := 1) (by decide +kernel) (isA_lit (show shp 190 = (3, 1) by decide +kernel) (by decide)) (by decide +kernel) (by decide +kernel) ?_
  rw [wr_0]
  refine aw_goto (off := 6) (tgt := 15) (by decide +kernel) (by decide) ?_
  refine aw_iconst (n := 0) (by decide +kernel) ?_
  exact aw_iret (by decide +kernel) rfl (k0 v g1 ha)
abbrev mL_pairs : MT := (RL, cL_pairs, 4, some .int, "pairs", [(0, 9, 12, 24)])
theorem cwL_pairs {M : MT} {i : Nat} : callWH M i yL_pairs mL_pairs 3 := ⟨(tb_mem 1238 (by decide +kernel) (by decide +kernel)), (tb_mem 0 (by decide +kernel) (by decide +kernel)), ⟨(by decide +kernel), (by decide +kernel)⟩, (by decide +kernel), by decide⟩
theorem stL_pairs : Cond.static yL_pairs ∈ gw := (tb_mem 1237 (by decide +kernel) (by decide +kernel))
set_option maxHeartbeats 1000000 in
theorem w_pairs {Γ : Cfg} {l : Launch} {d2 b : Nat} {g : GG} {x0 : Int} {K : Ou → HP → Prop} {A : Int → Int → GG → Prop} (hb : 1 ≤ b) (hr : ∀ c v g1, A c v g1 → 0 ≤ c ∧ c ≤ ([eIO] : List String).length) (hC : Ct Γ l d2 1 yX11_pairs mX11_pairs [vR 1, vI x0] (stt g) (CK [eIO] A)) (k0 : ∀ v g1, A 0 v g1 → K (.inl (vI 0)) (stt (upd2 g1 190 0 (wr v)))) (k1 : ∀ c v g1, A c v g1 → 0 < c → K (.inl (vI c)) (stt g1)) : CtH Γ l (d2 + 1) b yL_pairs mL_pairs [vR 1, vI x0, vR 190] (stt g) K := by
  refine CtH.enter (L := [vR 1, vI x0, vR 190, vU]) rfl rfl (by decide +kernel) (by simp [oneSlot]) (Nat.le_of_ble_eq_true rfl) rfl ?_
  refine aw_aload_n (k' := 2) (by decide +kernel) rfl ?_
  refine aw_iconst (n := 0) (by decide +kernel) ?_
  refine aw_aload_n (k' := 0) (by decide +kernel) rfl ?_
  refine aw_iload_n (k' := 1) (by decide +kernel) rfl ?_
  refine aw_callVH (y := yX11_pairs) (M2 := mX11_pairs) (as := [vI x0]) (S := [vI 0, vR 190]) (nms := [eIO]) (idx := 98) (t := 1) (d2 := d2) (b2 := 1) (b3 := (b - 1)) cwX11_pairs (tb_mem 1239 (by decide +kernel) (by decide +kernel)) imX11_pairs seX11_pairs (by decide +kernel) (ci := 9) rfl (OB.at (ci := 9) (show shp 1 = (19, 0) by decide +kernel) (by decide)) (Nat.le_refl _) (by omega) rfl rfl (by simp [oneSlot]) (Nat.le_of_ble_eq_true rfl) rfl rfl (by decide +kernel) (by decide +kernel) (by decide +kernel) (by decide) (fun j z hz => match j, hz with
    | 0, hz => by
      have hz : some _ = some z := hz
      cases hz
      exact Or.inl ⟨3, (by decide +kernel), by decide, (by decide +kernel), (by decide +kernel)⟩
    | j + 1, hz => by
      have hz : none = some z := hz
      cases hz) (Ct.mono hC fun o h' hk => CK.aft hr (fun v g1 ha => ?_) k1 hk)
  show AW Γ l mL_pairs (d2 + 1) (b - 1) 7 [vR 1, vI x0, vR 190, vU] [vI v, vI 0, vR 190] (stt g1) K
  refine aw_i2l (by decide +kernel) ?_
  refine aw_last (t := 190) (j := 0) (n := 1) (by decide +kernel) (isA_lit (show shp 190 = (3, 1) by decide +kernel) (by decide)) (by decide +kernel) (by decide +kernel) ?_
  rw [wr_0]
  refine aw_goto (off := 6) (tgt := 15) (by decide +kernel) (by decide) ?_
  refine aw_iconst (n := 0) (by decide +kernel) ?_
  exact aw_iret (by decide +kernel) rfl (k0 v g1 ha)
abbrev mL_rests : MT := (RL, cL_rests, 4, some .int, "rests", [(0, 9, 12, 24)])
theorem cwL_rests {M : MT} {i : Nat} : callWH M i yL_rests mL_rests 3 := ⟨(tb_mem 1262 (by decide +kernel) (by decide +kernel)), (tb_mem 0 (by decide +kernel) (by decide +kernel)), ⟨(by decide +kernel), (by decide +kernel)⟩, (by decide +kernel), by decide⟩
theorem stL_rests : Cond.static yL_rests ∈ gw := (tb_mem 1261 (by decide +kernel) (by decide +kernel))
set_option maxHeartbeats 1000000 in
theorem w_rests {Γ : Cfg} {l : Launch} {d2 b : Nat} {g : GG} {x0 : Int} {K : Ou → HP → Prop} {A : Int → Int → GG → Prop} (hb : 2 ≤ b) (hr : ∀ c v g1, A c v g1 → 0 ≤ c ∧ c ≤ ([eIO] : List String).length) (hC : Ct Γ l d2 2 yX11_rests mX11_rests [vR 1, vI x0] (stt g) (CK [eIO] A)) (k0 : ∀ v g1, A 0 v g1 → K (.inl (vI 0)) (stt (upd2 g1 190 0 (wr v)))) (k1 : ∀ c v g1, A c v g1 → 0 < c → K (.inl (vI c)) (stt g1)) : CtH Γ l (d2 + 1) b yL_rests mL_rests [vR 1, vI x0, vR 190] (stt g) K := by
  refine CtH.enter (L := [vR 1, vI x0, vR 190, vU]) rfl rfl (by decide +kernel) (by simp [oneSlot]) (Nat.le_of_ble_eq_true rfl) rfl ?_
  refine aw_aload_n (k' := 2) (by decide +kernel) rfl ?_
  refine aw_iconst (n := 0) (by decide +kernel) ?_
  refine aw_aload_n (k' := 0) (by decide +kernel) rfl ?_
  refine aw_iload_n (k' := 1) (by decide +kernel) rfl ?_
  refine aw_callVH (y := yX11_rests) (M2 := mX11_rests) (as := [vI x0]) (S := [vI 0, vR 190]) (nms := [eIO]) (idx := 101) (t := 1) (d2 := d2) (b2 := 2) (b3 := (b - 2)) cwX11_rests (tb_mem 1263 (by decide +kernel) (by decide +kernel)) imX11_rests seX11_rests (by decide +kernel) (ci := 9) rfl (OB.at (ci := 9) (show shp 1 = (19, 0) by decide +kernel) (by decide)) (Nat.le_refl _) (by omega) rfl rfl (by simp [oneSlot]) (Nat.le_of_ble_eq_true rfl) rfl rfl (by decide +kernel) (by decide +kernel) (by decide +kernel) (by decide) (fun j z hz => match j, hz with
    | 0, hz => by
      have hz : some _ = some z := hz
      cases hz
      exact Or.inl ⟨3, (by decide +kernel), by decide, (by decide +kernel), (by decide +kernel)⟩
    | j + 1, hz => by
      have hz : none = some z := hz
      cases hz) (Ct.mono hC fun o h' hk => CK.aft hr (fun v g1 ha => ?_) k1 hk)
  show AW Γ l mL_rests (d2 + 1) (b - 2) 7 [vR 1, vI x0, vR 190, vU] [vI v, vI 0, vR 190] (stt g1) K
  refine aw_i2l (by decide +kernel) ?_
  refine aw_last (t := 190) (j := 0) (n := 1) (by decide +kernel) (isA_lit (show shp 190 = (3, 1) by decide +kernel) (by decide)) (by decide +kernel) (by decide +kernel) ?_
  rw [wr_0]
  refine aw_goto (off := 6) (tgt := 15) (by decide +kernel) (by decide) ?_
  refine aw_iconst (n := 0) (by decide +kernel) ?_
  exact aw_iret (by decide +kernel) rfl (k0 v g1 ha)
abbrev mL_odds : MT := (RL, cL_odds, 4, some .int, "odds", [(0, 9, 12, 13)])
theorem cwL_odds {M : MT} {i : Nat} : callWH M i yL_odds mL_odds 3 := ⟨(tb_mem 1272 (by decide +kernel) (by decide +kernel)), (tb_mem 0 (by decide +kernel) (by decide +kernel)), ⟨(by decide +kernel), (by decide +kernel)⟩, (by decide +kernel), by decide⟩
theorem stL_odds : Cond.static yL_odds ∈ gw := (tb_mem 1271 (by decide +kernel) (by decide +kernel))
set_option maxHeartbeats 1000000 in
theorem w_odds {Γ : Cfg} {l : Launch} {d2 b : Nat} {g : GG} {x0 : Int} {K : Ou → HP → Prop} {A : Int → Int → GG → Prop} (hb : 2 ≤ b) (hr : ∀ c v g1, A c v g1 → 0 ≤ c ∧ c ≤ ([eIA] : List String).length) (hC : Ct Γ l d2 2 yX11_odds mX11_odds [vR 1, vI x0] (stt g) (CK [eIA] A)) (k0 : ∀ v g1, A 0 v g1 → K (.inl (vI 0)) (stt (upd2 g1 190 0 (wr v)))) (k1 : ∀ c v g1, A c v g1 → 0 < c → K (.inl (vI c)) (stt g1)) : CtH Γ l (d2 + 1) b yL_odds mL_odds [vR 1, vI x0, vR 190] (stt g) K := by
  refine CtH.enter (L := [vR 1, vI x0, vR 190, vU]) rfl rfl (by decide +kernel) (by simp [oneSlot]) (Nat.le_of_ble_eq_true rfl) rfl ?_
  refine aw_aload_n (k' := 2) (by decide +kernel) rfl ?_
  refine aw_iconst (n := 0) (by decide +kernel) ?_
  refine aw_aload_n (k' := 0) (by decide +kernel) rfl ?_
  refine aw_iload_n (k' := 1) (by decide +kernel) rfl ?_
  refine aw_callVH (y := yX11_odds) (M2 := mX11_odds) (as := [vI x0]) (S := [vI 0, vR 190]) (nms := [eIA]) (idx := 104) (t := 1) (d2 := d2) (b2 := 2) (b3 := (b - 2)) cwX11_odds (tb_mem 1273 (by decide +kernel) (by decide +kernel)) imX11_odds seX11_odds (by decide +kernel) (ci := 9) rfl (OB.at (ci := 9) (show shp 1 = (19, 0) by decide +kernel) (by decide)) (Nat.le_refl _) (by omega) rfl rfl (by simp [oneSlot]) (Nat.le_of_ble_eq_true rfl) rfl rfl (by decide +kernel) (by decide +kernel) (by decide +kernel) (by decide) (fun j z hz => match j, hz with
    | 0, hz => by
      have hz : some _ = some z := hz
      cases hz
      exact Or.inl ⟨3, (by decide +kernel), by decide, (by decide +kernel), (by decide +kernel)⟩
    | j + 1, hz => by
      have hz : none = some z := hz
      cases hz) (Ct.mono hC fun o h' hk => CK.aft hr (fun v g1 ha => ?_) k1 hk)
  show AW Γ l mL_odds (d2 + 1) (b - 2) 7 [vR 1, vI x0, vR 190, vU] [vI v, vI 0, vR 190] (stt g1) K
  refine aw_i2l (by decide +kernel) ?_
  refine aw_last (t := 190) (j := 0) (n := 1) (by decide +kernel) (isA_lit (show shp 190 = (3, 1) by decide +kernel) (by decide)) (by decide +kernel) (by decide +kernel) ?_
  rw [wr_0]
  refine aw_goto (off := 6) (tgt := 15) (by decide +kernel) (by decide) ?_
  refine aw_iconst (n := 0) (by decide +kernel) ?_
  exact aw_iret (by decide +kernel) rfl (k0 v g1 ha)
abbrev mL_most : MT := (RL, cL_most, 4, some .int, "most", [(0, 9, 12, 26)])
theorem cwL_most {M : MT} {i : Nat} : callWH M i yL_most mL_most 3 := ⟨(tb_mem 1279 (by decide +kernel) (by decide +kernel)), (tb_mem 0 (by decide +kernel) (by decide +kernel)), ⟨(by decide +kernel), (by decide +kernel)⟩, (by decide +kernel), by decide⟩
theorem stL_most : Cond.static yL_most ∈ gw := (tb_mem 1278 (by decide +kernel) (by decide +kernel))
set_option maxHeartbeats 1000000 in
theorem w_most {Γ : Cfg} {l : Launch} {d2 b : Nat} {g : GG} {x0 : Int} {K : Ou → HP → Prop} {A : Int → Int → GG → Prop} (hb : 1 ≤ b) (hr : ∀ c v g1, A c v g1 → 0 ≤ c ∧ c ≤ ([eNS] : List String).length) (hC : Ct Γ l d2 1 yX11_most mX11_most [vR 1, vI x0] (stt g) (CK [eNS] A)) (k0 : ∀ v g1, A 0 v g1 → K (.inl (vI 0)) (stt (upd2 g1 190 0 (wr v)))) (k1 : ∀ c v g1, A c v g1 → 0 < c → K (.inl (vI c)) (stt g1)) : CtH Γ l (d2 + 1) b yL_most mL_most [vR 1, vI x0, vR 190] (stt g) K := by
  refine CtH.enter (L := [vR 1, vI x0, vR 190, vU]) rfl rfl (by decide +kernel) (by simp [oneSlot]) (Nat.le_of_ble_eq_true rfl) rfl ?_
  refine aw_aload_n (k' := 2) (by decide +kernel) rfl ?_
  refine aw_iconst (n := 0) (by decide +kernel) ?_
  refine aw_aload_n (k' := 0) (by decide +kernel) rfl ?_
  refine aw_iload_n (k' := 1) (by decide +kernel) rfl ?_
  refine aw_callVH (y := yX11_most) (M2 := mX11_most) (as := [vI x0]) (S := [vI 0, vR 190]) (nms := [eNS]) (idx := 107) (t := 1) (d2 := d2) (b2 := 1) (b3 := (b - 1)) cwX11_most (tb_mem 1280 (by decide +kernel) (by decide +kernel)) imX11_most seX11_most (by decide +kernel) (ci := 9) rfl (OB.at (ci := 9) (show shp 1 = (19, 0) by decide +kernel) (by decide)) (Nat.le_refl _) (by omega) rfl rfl (by simp [oneSlot]) (Nat.le_of_ble_eq_true rfl) rfl rfl (by decide +kernel) (by decide +kernel) (by decide +kernel) (by decide) (fun j z hz => match j, hz with
    | 0, hz => by
      have hz : some _ = some z := hz
      cases hz
      exact Or.inl ⟨3, (by decide +kernel), by decide, (by decide +kernel), (by decide +kernel)⟩
    | j + 1, hz => by
      have hz : none = some z := hz
      cases hz) (Ct.mono hC fun o h' hk => CK.aft hr (fun v g1 ha => ?_) k1 hk)
  show AW Γ l mL_most (d2 + 1) (b - 1) 7 [vR 1, vI x0, vR 190, vU] [vI v, vI 0, vR 190] (stt g1) K
  refine aw_i2l (by decide +kernel) ?_
  refine aw_last (t := 190) (j := 0) (n := 1) (by decide +kernel) (isA_lit (show shp 190 = (3, 1) by decide +kernel) (by decide)) (by decide +kernel) (by decide +kernel) ?_
  rw [wr_0]
  refine aw_goto (off := 6) (tgt := 15) (by decide +kernel) (by decide) ?_
  refine aw_iconst (n := 0) (by decide +kernel) ?_
  exact aw_iret (by decide +kernel) rfl (k0 v g1 ha)
abbrev mL_which : MT := (RL, cL_which, 4, some .int, "which", [(0, 9, 12, 26)])
theorem cwL_which {M : MT} {i : Nat} : callWH M i yL_which mL_which 3 := ⟨(tb_mem 1287 (by decide +kernel) (by decide +kernel)), (tb_mem 0 (by decide +kernel) (by decide +kernel)), ⟨(by decide +kernel), (by decide +kernel)⟩, (by decide +kernel), by decide⟩
theorem stL_which : Cond.static yL_which ∈ gw := (tb_mem 1286 (by decide +kernel) (by decide +kernel))
set_option maxHeartbeats 1000000 in
theorem w_which {Γ : Cfg} {l : Launch} {d2 b : Nat} {g : GG} {x0 : Int} {K : Ou → HP → Prop} {A : Int → Int → GG → Prop} (hb : 1 ≤ b) (hr : ∀ c v g1, A c v g1 → 0 ≤ c ∧ c ≤ ([eNS] : List String).length) (hC : Ct Γ l d2 1 yX11_which mX11_which [vR 1, vI x0] (stt g) (CK [eNS] A)) (k0 : ∀ v g1, A 0 v g1 → K (.inl (vI 0)) (stt (upd2 g1 190 0 (wr v)))) (k1 : ∀ c v g1, A c v g1 → 0 < c → K (.inl (vI c)) (stt g1)) : CtH Γ l (d2 + 1) b yL_which mL_which [vR 1, vI x0, vR 190] (stt g) K := by
  refine CtH.enter (L := [vR 1, vI x0, vR 190, vU]) rfl rfl (by decide +kernel) (by simp [oneSlot]) (Nat.le_of_ble_eq_true rfl) rfl ?_
  refine aw_aload_n (k' := 2) (by decide +kernel) rfl ?_
  refine aw_iconst (n := 0) (by decide +kernel) ?_
  refine aw_aload_n (k' := 0) (by decide +kernel) rfl ?_
  refine aw_iload_n (k' := 1) (by decide +kernel) rfl ?_
  refine aw_callVH (y := yX11_which) (M2 := mX11_which) (as := [vI x0]) (S := [vI 0, vR 190]) (nms := [eNS]) (idx := 110) (t := 1) (d2 := d2) (b2 := 1) (b3 := (b - 1)) cwX11_which (tb_mem 1288 (by decide +kernel) (by decide +kernel)) imX11_which seX11_which (by decide +kernel) (ci := 9) rfl (OB.at (ci := 9) (show shp 1 = (19, 0) by decide +kernel) (by decide)) (Nat.le_refl _) (by omega) rfl rfl (by simp [oneSlot]) (Nat.le_of_ble_eq_true rfl) rfl rfl (by decide +kernel) (by decide +kernel) (by decide +kernel) (by decide) (fun j z hz => match j, hz with
    | 0, hz => by
      have hz : some _ = some z := hz
      cases hz
      exact Or.inl ⟨3, (by decide +kernel), by decide, (by decide +kernel), (by decide +kernel)⟩
    | j + 1, hz => by
      have hz : none = some z := hz
      cases hz) (Ct.mono hC fun o h' hk => CK.aft hr (fun v g1 ha => ?_) k1 hk)
  show AW Γ l mL_which (d2 + 1) (b - 1) 7 [vR 1, vI x0, vR 190, vU] [vI v, vI 0, vR 190] (stt g1) K
  refine aw_i2l (by decide +kernel) ?_
  refine aw_last (t := 190) (j := 0) (n := 1) (by decide +kernel) (isA_lit (show shp 190 = (3, 1) by decide +kernel) (by decide)) (by decide +kernel) (by decide +kernel) ?_
  rw [wr_0]
  refine aw_goto (off := 6) (tgt := 15) (by decide +kernel) (by decide) ?_
  refine aw_iconst (n := 0) (by decide +kernel) ?_
  exact aw_iret (by decide +kernel) rfl (k0 v g1 ha)
abbrev mL_trial : MT := (RL, cL_trial, 5, some .int, "trial", [(0, 10, 13, 13)])
theorem cwL_trial {M : MT} {i : Nat} : callWH M i yL_trial mL_trial 4 := ⟨(tb_mem 1295 (by decide +kernel) (by decide +kernel)), (tb_mem 0 (by decide +kernel) (by decide +kernel)), ⟨(by decide +kernel), (by decide +kernel)⟩, (by decide +kernel), by decide⟩
theorem stL_trial : Cond.static yL_trial ∈ gw := (tb_mem 1294 (by decide +kernel) (by decide +kernel))
set_option maxHeartbeats 1000000 in
theorem w_trial {Γ : Cfg} {l : Launch} {d2 b : Nat} {g : GG} {x0 x1 : Int} {K : Ou → HP → Prop} {A : Int → Int → GG → Prop} (hb : 1 ≤ b) (hr : ∀ c v g1, A c v g1 → 0 ≤ c ∧ c ≤ ([eIA] : List String).length) (hC : Ct Γ l d2 1 yX11_trial mX11_trial [vR 1, vI x0, vI x1] (stt g) (CK [eIA] A)) (k0 : ∀ v g1, A 0 v g1 → K (.inl (vI 0)) (stt (upd2 g1 190 0 (wr v)))) (k1 : ∀ c v g1, A c v g1 → 0 < c → K (.inl (vI c)) (stt g1)) : CtH Γ l (d2 + 1) b yL_trial mL_trial [vR 1, vI x0, vI x1, vR 190] (stt g) K := by
  refine CtH.enter (L := [vR 1, vI x0, vI x1, vR 190, vU]) rfl rfl (by decide +kernel) (by simp [oneSlot]) (Nat.le_of_ble_eq_true rfl) rfl ?_
  refine aw_aload_n (k' := 3) (by decide +kernel) rfl ?_
  refine aw_iconst (n := 0) (by decide +kernel) ?_
  refine aw_aload_n (k' := 0) (by decide +kernel) rfl ?_
  refine aw_iload_n (k' := 1) (by decide +kernel) rfl ?_
  refine aw_iload_n (k' := 2) (by decide +kernel) rfl ?_
  refine aw_callVH (y := yX11_trial) (M2 := mX11_trial) (as := [vI x0, vI x1]) (S := [vI 0, vR 190]) (nms := [eIA]) (idx := 113) (t := 1) (d2 := d2) (b2 := 1) (b3 := (b - 1)) cwX11_trial (tb_mem 1296 (by decide +kernel) (by decide +kernel)) imX11_trial seX11_trial (by decide +kernel) (ci := 9) rfl (OB.at (ci := 9) (show shp 1 = (19, 0) by decide +kernel) (by decide)) (Nat.le_refl _) (by omega) rfl rfl (by simp [oneSlot]) (Nat.le_of_ble_eq_true rfl) rfl rfl (by decide +kernel) (by decide +kernel) (by decide +kernel) (by decide) (fun j z hz => match j, hz with
    | 0, hz => by
      have hz : some _ = some z := hz
      cases hz
      exact Or.inr ⟨4, (by decide +kernel), by decide, (by decide +kernel), (by decide +kernel)⟩
    | j + 1, hz => by
      have hz : none = some z := hz
      cases hz) (Ct.mono hC fun o h' hk => CK.aft hr (fun v g1 ha => ?_) k1 hk)
  show AW Γ l mL_trial (d2 + 1) (b - 1) 8 [vR 1, vI x0, vI x1, vR 190, vU] [vI v, vI 0, vR 190] (stt g1) K
  refine aw_i2l (by decide +kernel) ?_
  refine aw_last (t := 190) (j := 0) (n := 1) (by decide +kernel) (isA_lit (show shp 190 = (3, 1) by decide +kernel) (by decide)) (by decide +kernel) (by decide +kernel) ?_
  rw [wr_0]
  refine aw_goto (off := 7) (tgt := 17) (by decide +kernel) (by decide) ?_
  refine aw_iconst (n := 0) (by decide +kernel) ?_
  exact aw_iret (by decide +kernel) rfl (k0 v g1 ha)
abbrev mL_span : MT := (RL, cL_span, 5, some .int, "span", [(0, 10, 13, 13)])
theorem cwL_span {M : MT} {i : Nat} : callWH M i yL_span mL_span 4 := ⟨(tb_mem 1302 (by decide +kernel) (by decide +kernel)), (tb_mem 0 (by decide +kernel) (by decide +kernel)), ⟨(by decide +kernel), (by decide +kernel)⟩, (by decide +kernel), by decide⟩
theorem stL_span : Cond.static yL_span ∈ gw := (tb_mem 1301 (by decide +kernel) (by decide +kernel))
set_option maxHeartbeats 1000000 in
theorem w_span {Γ : Cfg} {l : Launch} {d2 b : Nat} {g : GG} {x0 x1 : Int} {K : Ou → HP → Prop} {A : Int → Int → GG → Prop} (hb : 2 ≤ b) (hr : ∀ c v g1, A c v g1 → 0 ≤ c ∧ c ≤ ([eIA] : List String).length) (hC : Ct Γ l d2 2 yX11_span mX11_span [vR 1, vI x0, vI x1] (stt g) (CK [eIA] A)) (k0 : ∀ v g1, A 0 v g1 → K (.inl (vI 0)) (stt (upd2 g1 190 0 (wr v)))) (k1 : ∀ c v g1, A c v g1 → 0 < c → K (.inl (vI c)) (stt g1)) : CtH Γ l (d2 + 1) b yL_span mL_span [vR 1, vI x0, vI x1, vR 190] (stt g) K := by
  refine CtH.enter (L := [vR 1, vI x0, vI x1, vR 190, vU]) rfl rfl (by decide +kernel) (by simp [oneSlot]) (Nat.le_of_ble_eq_true rfl) rfl ?_
  refine aw_aload_n (k' := 3) (by decide +kernel) rfl ?_
  refine aw_iconst (n := 0) (by decide +kernel) ?_
  refine aw_aload_n (k' := 0) (by decide +kernel) rfl ?_
  refine aw_iload_n (k' := 1) (by decide +kernel) rfl ?_
  refine aw_iload_n (k' := 2) (by decide +kernel) rfl ?_
  refine aw_callVH (y := yX11_span) (M2 := mX11_span) (as := [vI x0, vI x1]) (S := [vI 0, vR 190]) (nms := [eIA]) (idx := 117) (t := 1) (d2 := d2) (b2 := 2) (b3 := (b - 2)) cwX11_span (tb_mem 1303 (by decide +kernel) (by decide +kernel)) imX11_span seX11_span (by decide +kernel) (ci := 9) rfl (OB.at (ci := 9) (show shp 1 = (19, 0) by decide +kernel) (by decide)) (Nat.le_refl _) (by omega) rfl rfl (by simp [oneSlot]) (Nat.le_of_ble_eq_true rfl) rfl rfl (by decide +kernel) (by decide +kernel) (by decide +kernel) (by decide) (fun j z hz => match j, hz with
    | 0, hz => by
      have hz : some _ = some z := hz
      cases hz
      exact Or.inr ⟨4, (by decide +kernel), by decide, (by decide +kernel), (by decide +kernel)⟩
    | j + 1, hz => by
      have hz : none = some z := hz
      cases hz) (Ct.mono hC fun o h' hk => CK.aft hr (fun v g1 ha => ?_) k1 hk)
  show AW Γ l mL_span (d2 + 1) (b - 2) 8 [vR 1, vI x0, vI x1, vR 190, vU] [vI v, vI 0, vR 190] (stt g1) K
  refine aw_i2l (by decide +kernel) ?_
  refine aw_last (t := 190) (j := 0) (n := 1) (by decide +kernel) (isA_lit (show shp 190 = (3, 1) by decide +kernel) (by decide)) (by decide +kernel) (by decide +kernel) ?_
  rw [wr_0]
  refine aw_goto (off := 7) (tgt := 17) (by decide +kernel) (by decide) ?_
  refine aw_iconst (n := 0) (by decide +kernel) ?_
  exact aw_iret (by decide +kernel) rfl (k0 v g1 ha)
abbrev mL_led : MT := (RL, cL_led, 5, some .int, "led", [(0, 10, 13, 24)])
theorem cwL_led {M : MT} {i : Nat} : callWH M i yL_led mL_led 4 := ⟨(tb_mem 1309 (by decide +kernel) (by decide +kernel)), (tb_mem 0 (by decide +kernel) (by decide +kernel)), ⟨(by decide +kernel), (by decide +kernel)⟩, (by decide +kernel), by decide⟩
theorem stL_led : Cond.static yL_led ∈ gw := (tb_mem 1308 (by decide +kernel) (by decide +kernel))
set_option maxHeartbeats 1000000 in
theorem w_led {Γ : Cfg} {l : Launch} {d2 b : Nat} {g : GG} {x0 x1 : Int} {K : Ou → HP → Prop} {A : Int → Int → GG → Prop} (hb : 2 ≤ b) (hr : ∀ c v g1, A c v g1 → 0 ≤ c ∧ c ≤ ([eIO] : List String).length) (hC : Ct Γ l d2 2 yX11_led mX11_led [vR 1, vI x0, vI x1] (stt g) (CK [eIO] A)) (k0 : ∀ v g1, A 0 v g1 → K (.inl (vI 0)) (stt (upd2 g1 190 0 (wr v)))) (k1 : ∀ c v g1, A c v g1 → 0 < c → K (.inl (vI c)) (stt g1)) : CtH Γ l (d2 + 1) b yL_led mL_led [vR 1, vI x0, vI x1, vR 190] (stt g) K := by
  refine CtH.enter (L := [vR 1, vI x0, vI x1, vR 190, vU]) rfl rfl (by decide +kernel) (by simp [oneSlot]) (Nat.le_of_ble_eq_true rfl) rfl ?_
  refine aw_aload_n (k' := 3) (by decide +kernel) rfl ?_
  refine aw_iconst (n := 0) (by decide +kernel) ?_
  refine aw_aload_n (k' := 0) (by decide +kernel) rfl ?_
  refine aw_iload_n (k' := 1) (by decide +kernel) rfl ?_
  refine aw_iload_n (k' := 2) (by decide +kernel) rfl ?_
  refine aw_callVH (y := yX11_led) (M2 := mX11_led) (as := [vI x0, vI x1]) (S := [vI 0, vR 190]) (nms := [eIO]) (idx := 120) (t := 1) (d2 := d2) (b2 := 2) (b3 := (b - 2)) cwX11_led (tb_mem 1310 (by decide +kernel) (by decide +kernel)) imX11_led seX11_led (by decide +kernel) (ci := 9) rfl (OB.at (ci := 9) (show shp 1 = (19, 0) by decide +kernel) (by decide)) (Nat.le_refl _) (by omega) rfl rfl (by simp [oneSlot]) (Nat.le_of_ble_eq_true rfl) rfl rfl (by decide +kernel) (by decide +kernel) (by decide +kernel) (by decide) (fun j z hz => match j, hz with
    | 0, hz => by
      have hz : some _ = some z := hz
      cases hz
      exact Or.inr ⟨4, (by decide +kernel), by decide, (by decide +kernel), (by decide +kernel)⟩
    | j + 1, hz => by
      have hz : none = some z := hz
      cases hz) (Ct.mono hC fun o h' hk => CK.aft hr (fun v g1 ha => ?_) k1 hk)
  show AW Γ l mL_led (d2 + 1) (b - 2) 8 [vR 1, vI x0, vI x1, vR 190, vU] [vI v, vI 0, vR 190] (stt g1) K
  refine aw_i2l (by decide +kernel) ?_
  refine aw_last (t := 190) (j := 0) (n := 1) (by decide +kernel) (isA_lit (show shp 190 = (3, 1) by decide +kernel) (by decide)) (by decide +kernel) (by decide +kernel) ?_
  rw [wr_0]
  refine aw_goto (off := 7) (tgt := 17) (by decide +kernel) (by decide) ?_
  refine aw_iconst (n := 0) (by decide +kernel) ?_
  exact aw_iret (by decide +kernel) rfl (k0 v g1 ha)
abbrev mL_log : MT := (RL, cL_log, 5, some .int, "log", [(0, 10, 13, 26)])
theorem cwL_log {M : MT} {i : Nat} : callWH M i yL_log mL_log 4 := ⟨(tb_mem 1316 (by decide +kernel) (by decide +kernel)), (tb_mem 0 (by decide +kernel) (by decide +kernel)), ⟨(by decide +kernel), (by decide +kernel)⟩, (by decide +kernel), by decide⟩
theorem stL_log : Cond.static yL_log ∈ gw := (tb_mem 1315 (by decide +kernel) (by decide +kernel))
set_option maxHeartbeats 1000000 in
theorem w_log {Γ : Cfg} {l : Launch} {d2 b : Nat} {g : GG} {x0 x1 : Int} {K : Ou → HP → Prop} {A : Int → Int → GG → Prop} (hb : 1 ≤ b) (hr : ∀ c v g1, A c v g1 → 0 ≤ c ∧ c ≤ ([eNS] : List String).length) (hC : Ct Γ l d2 1 yX11_log mX11_log [vR 1, vI x0, vI x1] (stt g) (CK [eNS] A)) (k0 : ∀ v g1, A 0 v g1 → K (.inl (vI 0)) (stt (upd2 g1 190 0 (wr v)))) (k1 : ∀ c v g1, A c v g1 → 0 < c → K (.inl (vI c)) (stt g1)) : CtH Γ l (d2 + 1) b yL_log mL_log [vR 1, vI x0, vI x1, vR 190] (stt g) K := by
  refine CtH.enter (L := [vR 1, vI x0, vI x1, vR 190, vU]) rfl rfl (by decide +kernel) (by simp [oneSlot]) (Nat.le_of_ble_eq_true rfl) rfl ?_
  refine aw_aload_n (k' := 3) (by decide +kernel) rfl ?_
  refine aw_iconst (n := 0) (by decide +kernel) ?_
  refine aw_aload_n (k' := 0) (by decide +kernel) rfl ?_
  refine aw_iload_n (k' := 1) (by decide +kernel) rfl ?_
  refine aw_iload_n (k' := 2) (by decide +kernel) rfl ?_
  refine aw_callVH (y := yX11_log) (M2 := mX11_log) (as := [vI x0, vI x1]) (S := [vI 0, vR 190]) (nms := [eNS]) (idx := 123) (t := 1) (d2 := d2) (b2 := 1) (b3 := (b - 1)) cwX11_log (tb_mem 1317 (by decide +kernel) (by decide +kernel)) imX11_log seX11_log (by decide +kernel) (ci := 9) rfl (OB.at (ci := 9) (show shp 1 = (19, 0) by decide +kernel) (by decide)) (Nat.le_refl _) (by omega) rfl rfl (by simp [oneSlot]) (Nat.le_of_ble_eq_true rfl) rfl rfl (by decide +kernel) (by decide +kernel) (by decide +kernel) (by decide) (fun j z hz => match j, hz with
    | 0, hz => by
      have hz : some _ = some z := hz
      cases hz
      exact Or.inr ⟨4, (by decide +kernel), by decide, (by decide +kernel), (by decide +kernel)⟩
    | j + 1, hz => by
      have hz : none = some z := hz
      cases hz) (Ct.mono hC fun o h' hk => CK.aft hr (fun v g1 ha => ?_) k1 hk)
  show AW Γ l mL_log (d2 + 1) (b - 1) 8 [vR 1, vI x0, vI x1, vR 190, vU] [vI v, vI 0, vR 190] (stt g1) K
  refine aw_i2l (by decide +kernel) ?_
  refine aw_last (t := 190) (j := 0) (n := 1) (by decide +kernel) (isA_lit (show shp 190 = (3, 1) by decide +kernel) (by decide)) (by decide +kernel) (by decide +kernel) ?_
  rw [wr_0]
  refine aw_goto (off := 7) (tgt := 17) (by decide +kernel) (by decide) ?_
  refine aw_iconst (n := 0) (by decide +kernel) ?_
  exact aw_iret (by decide +kernel) rfl (k0 v g1 ha)
