/-! SMALL HELPERS OVER SIGNS AND TEXTS, a sparse switch -/
set_option maxHeartbeats 1000000 in
theorem wpX8_isFlag {Γ : Cfg} {l : Launch} {d b : Nat} {g : GG} {K : Ou → HP → Prop} {t : Int} (ht : SG t) (hF : (wr (sgF t) = 7 → K (.inl (vI 1)) (stt g)) ∧ (¬ (wr (sgF t) = 7) → (wr (sgF t) = 8 → K (.inl (vI 1)) (stt g)) ∧ (¬ (wr (sgF t) = 8) → (¬ wr (sgF t) = 9 → K (.inl (vI 0)) (stt g)) ∧ (¬ (¬ wr (sgF t) = 9) → K (.inl (vI 1)) (stt g))))) : Ct Γ l d b yX8_isFlag mX8_isFlag [vR t] (stt g) K := by
  refine Ct.enter (L := [vR t]) rfl rfl rfl (by decide +kernel) (by simp [oneSlot]) (Nat.le_of_ble_eq_true rfl) rfl ?_
  refine aw_aload_n (k' := 0) (by decide +kernel) rfl ?_
  refine aw_stf (idx := 150) (v := vI (sgF t)) (ht).1 (fun hS => ofSGf ht hS) (fun hown hts hnw => Or.inl (hts _ (tm9 135 (by decide +kernel) (by decide +kernel)))) (by decide +kernel) ?_
  refine aw_bipush (n := 7) (by decide +kernel) (by decide +kernel) ?_
  refine ax_icmp_eq (off := 21) (tgt := 27) (x' := wr (sgF t)) (y' := 7) (by decide +kernel) (by decide) rfl (by decide +kernel) (fun hc => ?_) (fun hc => ?_)
  · have hF := hF.1 hc
    refine aw_iconst (n := 1) (by decide +kernel) ?_
    refine aw_goto (off := 4) (tgt := 32) (by decide +kernel) (by decide) ?_
    exact aw_zret (by decide +kernel) rfl rfl hF
  · have hF := hF.2 hc
    refine aw_aload_n (k' := 0) (by decide +kernel) rfl ?_
    refine aw_stf (idx := 150) (v := vI (sgF t)) (ht).1 (fun hS => ofSGf ht hS) (fun hown hts hnw => Or.inl (hts _ (tm9 135 (by decide +kernel) (by decide +kernel)))) (by decide +kernel) ?_
    refine aw_bipush (n := 8) (by decide +kernel) (by decide +kernel) ?_
    refine ax_icmp_eq (off := 12) (tgt := 27) (x' := wr (sgF t)) (y' := 8) (by decide +kernel) (by decide) rfl (by decide +kernel) (fun hc => ?_) (fun hc => ?_)
    · have hF := hF.1 hc
      refine aw_iconst (n := 1) (by decide +kernel) ?_
      refine aw_goto (off := 4) (tgt := 32) (by decide +kernel) (by decide) ?_
      exact aw_zret (by decide +kernel) rfl rfl hF
    · have hF := hF.2 hc
      refine aw_aload_n (k' := 0) (by decide +kernel) rfl ?_
      refine aw_stf (idx := 150) (v := vI (sgF t)) (ht).1 (fun hS => ofSGf ht hS) (fun hown hts hnw => Or.inl (hts _ (tm9 135 (by decide +kernel) (by decide +kernel)))) (by decide +kernel) ?_
      refine aw_bipush (n := 9) (by decide +kernel) (by decide +kernel) ?_
      refine ax_icmp_ne (off := 7) (tgt := 31) (x' := wr (sgF t)) (y' := 9) (by decide +kernel) (by decide) rfl (by decide +kernel) (fun hc => ?_) (fun hc => ?_)
      · have hF := hF.1 hc
        refine aw_iconst (n := 0) (by decide +kernel) ?_
        exact aw_zret (by decide +kernel) rfl rfl hF
      · have hF := hF.2 hc
        refine aw_iconst (n := 1) (by decide +kernel) ?_
        refine aw_goto (off := 4) (tgt := 32) (by decide +kernel) (by decide) ?_
        exact aw_zret (by decide +kernel) rfl rfl hF

set_option maxHeartbeats 1000000 in
theorem wpX12_noHours {Γ : Cfg} {l : Launch} {d b : Nat} {g : GG} {K : Ou → HP → Prop} {x0 : Int} (hF : (0 ≤ wr x0 ∧ wr x0 ≤ 60 → K (.inl (vI 0)) (stt g)) ∧ (¬ (0 ≤ wr x0 ∧ wr x0 ≤ 60) → K (.inl (vI 1)) (stt g))) : Ct Γ l (d + 1) b yX12_noHours mX12_noHours [vI x0] (stt g) K := by
  refine Ct.enter (L := [vI x0]) rfl rfl rfl (by decide +kernel) (by simp [oneSlot]) (Nat.le_of_ble_eq_true rfl) rfl ?_
  refine aw_iload_n (k' := 0) (by decide +kernel) rfl ?_
  refine aw_iconst (n := 0) (by decide +kernel) ?_
  refine aw_bipush (n := 60) (by decide +kernel) (by decide +kernel) ?_
  refine aw_callS (y := yX12_in) (M2 := mX12_in) (as := [vI x0, vI 0, vI 60]) (S := []) (d2 := d) (b2 := 0) (b3 := b) cwX12_in mlX12_91 stX12_in (by decide +kernel) rfl (Nat.le_refl _) (Nat.le_of_eq (Nat.zero_add _)) rfl rfl (by simp [oneSlot]) (Nat.le_of_ble_eq_true rfl) (c_in (x' := wr x0) (y' := 0) (z' := 60) rfl (by decide +kernel) (by decide +kernel) (fun hc => ?_) (fun hc => ?_))
  · have hF := hF.1 hc
    show AW Γ l mX12_noHours (d + 1) b 7 [vI x0] [vI 1] (stt g) K
    refine ax_if_ne (off := 7) (tgt := 14) (x' := 1) (by decide +kernel) (by decide) (by decide +kernel) (fun hc => ?_) (fun hc => absurd (by decide) hc)
    refine aw_iconst (n := 0) (by decide +kernel) ?_
    exact aw_zret (by decide +kernel) rfl rfl hF
  · have hF := hF.2 hc
    show AW Γ l mX12_noHours (d + 1) b 7 [vI x0] [vI 0] (stt g) K
    refine ax_if_ne (off := 7) (tgt := 14) (x' := 0) (by decide +kernel) (by decide) (by decide +kernel) (fun hc => absurd hc (by decide)) (fun hc => ?_)
    refine aw_iconst (n := 1) (by decide +kernel) ?_
    refine aw_goto (off := 4) (tgt := 15) (by decide +kernel) (by decide) ?_
    exact aw_zret (by decide +kernel) rfl rfl hF

theorem wr_sgF {r : Int} (hr : SG r) : wr (sgF r) = sgF r := by
  obtain ⟨k9, hk9, rfl⟩ := hr.eq
  have h0 : (List.range 39).all (fun k => decide (-1 ≤ sgFact k ∧ sgFact k ≤ 9)) = true := by decide +kernel
  have h1 := List.all_eq_true.mp h0 k9 (List.mem_range.mpr hk9)
  have h2 : -1 ≤ sgFact k9 ∧ sgFact k9 ≤ 9 := by simpa using h1
  have e : sgF (1000 + (k9 : Int)) = sgFact k9 := congrArg sgFact (by omega)
  rw [e]
  exact wr_id (by omega) (by omega)
theorem c_isFlag {Γ : Cfg} {l : Launch} {d b : Nat} {g : GG} {K : Ou → HP → Prop} {t : Int} (ht : SG t) (k1 : (sgF t = 7 ∨ sgF t = 8 ∨ sgF t = 9) → K (.inl (vI 1)) (stt g)) (k2 : ¬ (sgF t = 7 ∨ sgF t = 8 ∨ sgF t = 9) → K (.inl (vI 0)) (stt g)) : Ct Γ l d b yX8_isFlag mX8_isFlag [vR t] (stt g) K := by
  refine wpX8_isFlag ht ?_
  rw [wr_sgF ht]
  exact ⟨fun h => k1 (by omega), fun h => ⟨fun h2 => k1 (by omega), fun h2 => ⟨fun h3 => k2 (by omega), fun h3 => k1 (by omega)⟩⟩⟩
theorem c_noHours {Γ : Cfg} {l : Launch} {d b : Nat} {g : GG} {K : Ou → HP → Prop} {n : Int} (k1 : ¬ (0 ≤ wr n ∧ wr n ≤ 60) → K (.inl (vI 1)) (stt g)) (k2 : ¬ ¬ (0 ≤ wr n ∧ wr n ≤ 60) → K (.inl (vI 0)) (stt g)) : Ct Γ l (d + 1) b yX12_noHours mX12_noHours [vI n] (stt g) K :=
  wpX12_noHours ⟨fun h => k2 (fun q => q h), fun h => k1 h⟩
theorem c_charAt2 {Γ : Cfg} {l : Launch} {d b : Nat} {g : GG} {K : Ou → HP → Prop} {r j : Int} (hr : SS r) (h : 0 ≤ wr j ∧ wr j < ssL r) (k : K (.inl (vI ((ssB r).getD (wr j).toNat 0))) (stt g)) : Ct Γ l (d + 3) b yJ0_charAt_5068e mJ0_charAt_5068e [vR r, vI j] (stt g) K := c_charAt hr h.1 h.2 k
/-- a sparse switch of two cases -/
theorem ax_lsw2 {Γ : Cfg} {l : Launch} {M : MT} {d b pc : Nat} {L S : List AV} {h : HP} {K : Ou → HP → Prop} {dflt a1 o1 a2 o2 : Int} {len : Nat} {x : Int} (t1 t2 td : Nat) (dg : decode M.2.1 pc = .ok (.lookupswitch dflt #[(a1, o1), (a2, o2)], len)) (ha : a1 < a2) (h1 : (pc : Int) + o1 = (t1 : Int)) (h2 : (pc : Int) + o2 = (t2 : Int)) (hd : (pc : Int) + dflt = (td : Int))
    (k1 : wr x = a1 → AW Γ l M d b t1 L S h K) (k2 : wr x = a2 → AW Γ l M d b t2 L S h K) (k3 : (wr x ≠ a1 ∧ wr x ≠ a2) → AW Γ l M d b td L S h K) : AW Γ l M d b pc L (vI x :: S) h K := by
  have hp : ((#[(a1, o1), (a2, o2)] : Array (Int × Int)).toList.zip ((#[(a1, o1), (a2, o2)] : Array (Int × Int)).toList.drop 1)).all (fun (a, next) => a.1 < next.1) = true := by
    show (decide (a1 < a2) && true) = true
    simp [ha]
  by_cases q1 : wr x = a1
  · exact AW.step (k1 q1) fun hx hb _ _ hl kk => lv_lookup hx hb dg hp (off := o1) (by show Op.lookupswitch.offset [(a1, o1), (a2, o2)] dflt (wr x) = o1; rw [Op.lookupswitch.offset_cons, if_pos q1.symm]) h1 (kk _ hl)
  · by_cases q2 : wr x = a2
    · exact AW.step (k2 q2) fun hx hb _ _ hl kk => lv_lookup hx hb dg hp (off := o2) (by show Op.lookupswitch.offset [(a1, o1), (a2, o2)] dflt (wr x) = o2; rw [Op.lookupswitch.offset_cons, if_neg (fun e => q1 e.symm), Op.lookupswitch.offset_cons, if_pos q2.symm]) h2 (kk _ hl)
    · exact AW.step (k3 ⟨q1, q2⟩) fun hx hb _ _ hl kk => lv_lookup hx hb dg hp (off := dflt) (by show Op.lookupswitch.offset [(a1, o1), (a2, o2)] dflt (wr x) = dflt; rw [Op.lookupswitch.offset_cons, if_neg (fun e => q1 e.symm), Op.lookupswitch.offset_cons, if_neg (fun e => q2 e.symm), Op.lookupswitch.offset_nil]) hd (kk _ hl)
