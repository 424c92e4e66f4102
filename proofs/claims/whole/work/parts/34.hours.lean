/-! HOURS: the class's side -/
def spk1 (V : VV) (p : Int) : VV := if iRem (drS V) 100 < V 3 - 10 * zG V p then brkV (upV (upV V 7 (sdS V)) 7 (sdS (upV V 7 (sdS V)))) p (iRem (drS (upV V 7 (sdS V))) 5) else upV V 7 (sdS V)
def spk2 (V : VV) (p : Int) : VV := if zS V p = 1 then (if zC V p + zB V p < zL V p then upV V (12 + 29 * p + 4) (zC V p + zB V p) else heldT V p (zL V p) 5) else V
def spk3 (V : VV) (p : Int) : VV := if zS V p = 2 then upV V 5 (iMin 9999 (V 5 + heardS V p)) else V
def spkV (V : VV) (p : Int) : VV := spk3 (spk2 (spk1 V p) p) p
theorem iAnd_mask (x : Int) : 0 ≤ iAnd x 32767 ∧ iAnd x 32767 ≤ 32767 := by
  have e : (Int32.ofInt x &&& Int32.ofInt 32767).toBitVec.toNat ≤ 32767 := by
    rw [Int32.toBitVec_and, BitVec.toNat_and, bn (x := 32767) (by decide) (by decide)]
    exact Nat.and_le_right
  have h : iAnd x 32767 = ((Int32.ofInt x &&& Int32.ofInt 32767).toBitVec.toNat : Int) := bt_toInt (by omega)
  rw [h]
  omega
theorem WF.hd {V : VV} (h : WF V) {i v : Int} (i0 : 0 ≤ i) (i1 : i < 8) (hh : hdS (upV V i v)) (h0 : upV V i v 0 = V 0) : WF (upV V i v) := by
  have e : ∀ j, 8 ≤ j → upV V i v j = V j := fun j hj => upV_ne (by omega)
  refine h.of hh (fun k k0 k1 => ?_) (fun q q0 q1 => ?_) (fun q q0 q1 => ⟨e _ (by omega), fun j j0 j1 => e _ (by omega)⟩)
  · rw [e _ (by omega)]; exact h.2.1 k k0 k1
  · have hq := h.pn q0 q1
    have a1 : zL (upV V i v) q = zL V q := e _ (by omega)
    have a2 : zB (upV V i v) q = zB V q := e _ (by omega)
    have a3 : zG (upV V i v) q = zG V q := e _ (by omega)
    have a4 : zS (upV V i v) q = zS V q := e _ (by omega)
    have a5 : zC (upV V i v) q = zC V q := e _ (by omega)
    unfold pnS
    rw [a1, a2, a3, a4, a5, h0]
    exact hq
theorem WF.see {V : VV} (h : WF V) (v : Int) : WF (upV V 7 v) := by
  refine h.hd (by decide) (by decide) ?_ (upV_ne (by decide))
  unfold hdS
  rw [upV_ne (by decide), upV_ne (by decide), upV_ne (by decide), upV_ne (by decide), upV_ne (by decide), upV_ne (by decide)]
  exact h.1
theorem WF.ear {V : VV} (h : WF V) {v : Int} (v0 : 0 ≤ v) (v1 : v ≤ 9999) : WF (upV V 5 v) := by
  refine h.hd (by decide) (by decide) ?_ (upV_ne (by decide))
  have h1 := h.1
  unfold hdS
  rw [upV_ne (by decide), upV_ne (by decide), upV_ne (by decide), upV_ne (by decide), upV_eq, upV_ne (by decide)]
  omega
theorem WF.hou {V : VV} (h : WF V) {v : Int} (v0 : 0 ≤ v) (v1 : v ≤ 9999) : WF (upV V 4 v) := by
  refine h.hd (by decide) (by decide) ?_ (upV_ne (by decide))
  have h1 := h.1
  unfold hdS
  rw [upV_ne (by decide), upV_ne (by decide), upV_ne (by decide), upV_eq, upV_ne (by decide), upV_ne (by decide)]
  omega
theorem upV_id (V : VV) (i : Int) : upV V i (V i) = V := funext fun j => by
  by_cases e : j = i
  · rw [e, upV_eq]
  · rw [upV_ne e]
theorem cnt_set (V : VV) (p c : Int) : upV V (12 + 29 * p + 4) c = setS V p (zS V p) c := by
  unfold setS zS
  rw [upV_id]
theorem heard_rng {V : VV} (hW : okLaw V) (p : Int) : 1 ≤ heardS V p ∧ heardS V p ≤ 481 := hrS_rng hW _
section KH
variable {Γ : Cfg} {l : Launch} {d b : Nat} {g : GG} {K : Ou → HP → Prop} {V : VV} {t p : Int}
theorem CT.dr {g' : GG} (h : CT g t V) (h1 : HRel g' t (upV V 7 (sdS V))) (o : onlyH g g' t) : CT g' t (upV V 7 (sdS V)) := h.up h1 (h.2.1.see _) (upV_ne (by decide)) (fun j hj => upV_ne (by omega)) o
theorem k_sp39 (h : CT g t V) (p0 : 0 ≤ p) (p1 : p < 6) (ht : zS V p = 2 → g 156 7 = heardS V p) (kk : ∀ g', CT g' t (spk3 (spk2 V p) p) → onlyT g g' t → K (.inl vU) (stt g')) : AW Γ l mX1_speakOn (d + 5) b 39 [vR 160, vR t, vI p, vU] [] (stt g) K := by
  have hp := h.2.1.pn p0 p1
  have hr := h.1.hi.rng
  have l156 : ln 156 = 8 := by decide +kernel
  -- ears hear, if one is held
  have fin : ∀ (V4 : VV) (g4 : GG), V4 = spk2 V p → CT g4 t V4 → onlyT g g4 t → (zS V4 p = 2 → g4 156 7 = heardS V4 p) → ((¬ wr (cel g4 (t + 1 + 4) p) = 2 → K (.inl vU) (stt g4)) ∧ (¬ (¬ wr (cel g4 (t + 1 + 4) p) = 2) → ∀ g5 : GG, g5 = upd2 g4 t 12 (iMin 9999 (g4 t 12 + cel g4 156 7)) → K (.inl vU) (stt g5))) := by
    intro V4 g4 e4 h4 o4 t4
    have hp4 := h4.2.1.pn p0 p1
    have he := heard_rng h4.2.2.2 p
    have h5 := h4.2.1.1
    rw [← e4] at kk
    rw [h4.1.cS p0 p1, wr_id (x := zS V4 p) (by omega) (by omega), cel_in (r := 156) (by decide) (by rw [l156]; decide), h4.1.ear]
    unfold spk3 at kk
    refine ⟨fun q => ?_, fun q g5 e5 => ?_⟩
    · rw [if_neg q] at kk
      exact kk g4 h4 o4
    · have q2 : zS V4 p = 2 := by omega
      rw [if_pos q2] at kk
      rw [t4 q2] at e5
      have hm : 0 ≤ iMin 9999 (V4 5 + heardS V4 p) ∧ iMin 9999 (V4 5 + heardS V4 p) ≤ 9999 := by
        rw [iMin_id (by omega) (by omega) (by omega) (by omega)]
        omega
      have o5 : onlyH g4 g5 t := fun a j ha => by rw [e5, upd2_ne (by omega)]
      refine kk g5 (h4.up ?_ (h4.2.1.ear hm.1 hm.2) (upV_ne (by decide)) (fun j hj => upV_ne (by omega)) o5) (o4.tr o5.t)
      rw [e5]
      exact h4.1.fld (f := 12) (by decide) (by decide) h5.2.2.2.2.2.2
  apply wpX1_speakOn_39 h.1.hi
  have e1 : wr (cel g (t + 1 + 4) p) = zS V p := by rw [h.1.cS p0 p1, wr_id (x := zS V p) (by omega) (by omega)]
  rw [e1, h.1.cC p0 p1, h.1.cB p0 p1, h.1.cL p0 p1, wr_id (x := zC V p + zB V p) (by omega) (by omega), wr_id (x := zL V p) (by omega) (by omega)]
  refine ⟨fun q => ?_, fun q => ⟨fun q2 g2 e2 => ?_, fun q2 => ?_⟩⟩
  · have e4 : V = spk2 V p := by unfold spk2; rw [if_neg q]
    have f := fin V g e4 h (fun _ _ _ _ => rfl) ht
    rw [e1] at f
    exact f
  · have e4 : upV V (12 + 29 * p + 4) (zC V p + zB V p) = spk2 V p := by unfold spk2; rw [if_pos (by omega), if_pos q2]
    rw [puc_in p0 (by rw [h.1.hi.l5]; exact p1)] at e2
    have o2 : onlyH g g2 t := fun a j ha => by rw [e2, upd2_ne (by omega)]
    have w4 : WF (upV V (12 + 29 * p + 4) (zC V p + zB V p)) := by
      rw [cnt_set]
      exact h.2.1.set p0 p1 (by omega) (by omega) (by omega) (by omega)
    have c4 : CT g2 t (upV V (12 + 29 * p + 4) (zC V p + zB V p)) := h.up (by
      rw [e2]
      exact h.1.arr (c := 5) (by decide) (by decide) p0 p1 h.2.1.1.2.2.2.2.2.2) w4 (upV_ne (by omega)) (fun j hj => upV_ne (by omega)) o2
    refine fin _ g2 e4 c4 o2.t (fun z => ?_)
    have : zS (upV V (12 + 29 * p + 4) (zC V p + zB V p)) p = zS V p := upV_ne (by omega)
    omega
  · have e4 : heldT V p (zL V p) 5 = spk2 V p := by unfold spk2; rw [if_pos (by omega), if_neg q2]
    exact k_letFinish h p0 p1 fun g4 h4 t4 o4 => bI_in (fin _ g4 e4 h4 o4 (fun _ => t4))
theorem k_speakOn (h : CT g t V) (p0 : 0 ≤ p) (p1 : p < 6) (hs : zS V p = 1) (kk : ∀ g', CT g' t (spkV V p) → onlyT g g' t → K (.inl vU) (stt g')) : Ct Γ l (d + 5) b yX1_speakOn mX1_speakOn [vR 160, vR t, vI p] (stt g) K := by
  have hp := h.2.1.pn p0 p1
  have h3 := h.2.1.1
  have hd1 := iAnd_mask (iUsh (sdS V) 16)
  have hd2 := iAnd_mask (iUsh (sdS (upV V 7 (sdS V))) 16)
  have e1 : iRem (drS V) 100 = drS V % 100 := iRem_nn hd1.1 (show drS V < _ by unfold drS; omega) (by decide) (by decide)
  have e2 : iRem (drS (upV V 7 (sdS V))) 5 = drS (upV V 7 (sdS V)) % 5 := iRem_nn hd2.1 (show drS (upV V 7 (sdS V)) < _ by unfold drS; omega) (by decide) (by decide)
  apply wpX1_speakOn h.1.hi
  refine k_draw h.1 h.2.1 fun g1 h1 o1 => bI_in ?_
  have c1 := h.dr h1 o1
  have z3 : upV V 7 (sdS V) 3 = V 3 := upV_ne (by decide)
  have zg : zG (upV V 7 (sdS V)) p = zG V p := upV_ne (by omega)
  have zs : zS (upV V 7 (sdS V)) p = zS V p := upV_ne (by omega)
  rw [c1.1.noi, c1.1.cG p0 p1, z3, zg, wr_id (x := V 3 - 10 * zG V p) (by omega) (by omega), wr_iRem]
  unfold spkV spk1 at kk
  refine ⟨fun q => ?_, fun q => ?_⟩
  · rw [if_neg (by omega)] at kk
    exact k_sp39 c1 p0 p1 (fun z => by omega) fun g2 h2 o2 => kk g2 h2 (o1.t.tr o2)
  · rw [if_pos (by omega)] at kk
    refine k_draw c1.1 c1.2.1 fun g2 h2 o2 => bI_in ?_
    have c2 := c1.dr h2 o2
    refine k_breakIn c2 p0 p1 (by omega) (by omega) fun g3 h3 t3 o3 => bI_in ?_
    refine k_sp39 h3 p0 p1 (fun z => t3 (fun w => ?_)) fun g4 h4 o4 => kk g4 h4 (((o1.t.tr o2.t).tr o3).tr o4)
    rw [w] at z
    have a1 : zS (brkV (upV (upV V 7 (sdS V)) 7 (sdS (upV V 7 (sdS V)))) p 1) p = zS (upV (upV V 7 (sdS V)) 7 (sdS (upV V 7 (sdS V)))) p := by
      unfold brkV
      rw [if_pos rfl]
      exact zNote_ne (by omega) (by omega)
    have a2 : zS (upV (upV V 7 (sdS V)) 7 (sdS (upV V 7 (sdS V)))) p = zS (upV V 7 (sdS V)) p := upV_ne (by omega)
    omega
theorem spk1_0 (p0 : 0 ≤ p) : spk1 V p 0 = V 0 := by
  unfold spk1
  by_cases q : iRem (drS V) 100 < V 3 - 10 * zG V p
  · rw [if_pos q, brkV_ne (by omega) (by omega) (by decide) (by decide), upV_ne (by decide), upV_ne (by decide)]
  · rw [if_neg q, upV_ne (by decide)]
theorem spk2_0 (p0 : 0 ≤ p) : spk2 V p 0 = V 0 := by
  unfold spk2
  by_cases q : zS V p = 1
  · rw [if_pos q]
    by_cases q2 : zC V p + zB V p < zL V p
    · rw [if_pos q2, upV_ne (by omega)]
    · rw [if_neg q2, heldT_ne (by omega) (by omega) (by decide) (by decide)]
  · rw [if_neg q]
theorem spkV_0 (p0 : 0 ≤ p) : spkV V p 0 = V 0 := by
  have e : ∀ U : VV, spk3 U p 0 = U 0 := fun U => by
    unfold spk3
    by_cases q : zS U p = 2
    · rw [if_pos q, upV_ne (by decide)]
    · rw [if_neg q]
  unfold spkV
  rw [e, spk2_0 p0, spk1_0 p0]
/-- the people of an hour, one by one -/
def hrP (st : VV × Int) (p : Int) : VV × Int := if zS st.1 p = 1 then (spkV st.1 p, st.2 + (if zS (spkV st.1 p) p = 2 then 1 else 0)) else st
def hrS1 (st : VV × Int) : VV × Int := ((upV (fd hrP st (st.1 0).toNat).1 4 (iMin 9999 ((fd hrP st (st.1 0).toNat).1 4 + 1))), (fd hrP st (st.1 0).toNat).2)
def psS (V : VV) (n : Nat) : VV × Int := fd (fun st _ => hrS1 st) (V, 0) n
theorem hrP_0 (st : VV × Int) : ∀ n : Nat, (fd hrP st n).1 0 = st.1 0
  | 0 => rfl
  | n + 1 => by
    have ih := hrP_0 st n
    show (hrP (fd hrP st n) n).1 0 = _
    generalize fd hrP st n = s2 at ih ⊢
    unfold hrP
    by_cases q : zS s2.1 n = 1
    · rw [if_pos q]
      show spkV s2.1 n 0 = _
      rw [spkV_0 (by omega), ih]
    · rw [if_neg q, ih]
theorem psS_0 (V : VV) : ∀ n : Nat, (psS V n).1 0 = V 0
  | 0 => rfl
  | n + 1 => by
    have e : ∀ s : VV × Int, (hrS1 s).1 0 = s.1 0 := fun s => by
      show upV (fd hrP s (s.1 0).toNat).1 4 (iMin 9999 ((fd hrP s (s.1 0).toNat).1 4 + 1)) 0 = _
      rw [upV_ne (by decide), hrP_0]
    show (hrS1 (psS V n)).1 0 = _
    rw [e, psS_0 V n]
theorem k_passHours {n : Nat} (hn9 : n ≤ 60) (h : CT g t V) (kk : ∀ g', CT g' t (psS V n).1 → onlyT g g' t → K (.inl (vI (psS V n).2)) (stt g')) : Ct Γ l (d + 6) b yX1_passHours mX1_passHours [vR 160, vR t, vI n] (stt g) K := by
  have h6 := h.2.1.1.1
  have ht := h.1.hi
  have hr := h.1.hi.rng
  apply wpX1_passHours ht
  refine up_loop (P := fun i => ∀ g', CT g' t (psS V i).1 → onlyT g g' t → AW Γ l mX1_passHours (d + 6) b 5 [vR 160, vR t, vI n, vI (psS V i).2, vI i, vU] [] (stt g') K) (N := n) (fun g' h1 o1 => ?_) (fun i hi9 hi g' h1 o1 => ?_) 0 (Nat.zero_le _) g h (fun _ _ _ _ => rfl)
  · apply wpX1_passHours_5 ht
    exact ⟨fun _ => kk g' h1 o1, fun q => absurd (Int.le_refl _) q⟩
  · apply wpX1_passHours_5 ht
    rw [wr_id (x := (n : Int)) (by omega) (by omega), wr_id (x := (i : Int)) (by omega) (by omega)]
    refine ⟨fun q => absurd q (by omega), fun _ => ?_⟩
    have hi2 : ∀ g', CT g' t (hrS1 (psS V i)).1 → onlyT g g' t → AW Γ l mX1_passHours (d + 6) b 5 [vR 160, vR t, vI n, vI (hrS1 (psS V i)).2, vI ((i : Int) + 1), vU] [] (stt g') K := hi
    have v0 : (psS V i).1 0 = V 0 := psS_0 V i
    unfold hrS1 at hi2
    rw [v0] at hi2
    generalize psS V i = st at h1 hi2 v0 ⊢
    refine up_loop (P := fun q => ∀ g2, CT g2 t (fd hrP st q).1 → onlyT g g2 t → AW Γ l mX1_passHours (d + 6) b 14 [vR 160, vR t, vI n, vI (fd hrP st q).2, vI i, vI q] [] (stt g2) K) (N := (V 0).toNat) (fun g2 h2 o2 => ?_) (fun q hq9 hq g2 h2 o2 => ?_) 0 (Nat.zero_le _) g' h1 o1
    · have e0 := (hrP_0 st (V 0).toNat).trans v0
      have h4 := h2.2.1.1
      apply wpX1_passHours_14 ht
      rw [h2.1.ppl, e0, wr_id (x := V 0) (by omega) (by omega), wr_id (x := ((V 0).toNat : Int)) (by omega) (by omega), h2.1.hou]
      refine ⟨fun _ g3 e3 => ?_, fun z => absurd (show V 0 ≤ ((V 0).toNat : Int) by omega) z⟩
      have hm : 0 ≤ iMin 9999 ((fd hrP st (V 0).toNat).1 4 + 1) ∧ iMin 9999 ((fd hrP st (V 0).toNat).1 4 + 1) ≤ 9999 := by
        rw [iMin_id (by omega) (by omega) (by omega) (by omega)]
        omega
      have o3 : onlyH g2 g3 t := fun a j ha => by rw [e3, upd2_ne (by omega)]
      have c3 : CT g3 t (upV (fd hrP st (V 0).toNat).1 4 (iMin 9999 ((fd hrP st (V 0).toNat).1 4 + 1))) := h2.up (by
        rw [e3]
        exact h2.1.fld (f := 11) (by decide) (by decide) h4.2.2.2.2.2.2) (h2.2.1.hou hm.1 hm.2) (upV_ne (by decide)) (fun j hj => upV_ne (by omega)) o3
      exact AW.weak (hi2 g3 c3 (o2.tr o3.t)) (by simp [leP])
    · have e0 := (hrP_0 st q).trans v0
      have hp := h2.2.1.pn (p := q) (by omega) (by omega)
      have hq2 : ∀ g2, CT g2 t (hrP (fd hrP st q) q).1 → onlyT g g2 t → AW Γ l mX1_passHours (d + 6) b 14 [vR 160, vR t, vI n, vI (hrP (fd hrP st q) q).2, vI i, vI ((q : Int) + 1)] [] (stt g2) K := hq
      generalize fd hrP st q = s2 at h2 hp e0 hq2 ⊢
      unfold hrP at hq2
      apply wpX1_passHours_14 ht
      rw [h2.1.ppl, e0, wr_id (x := V 0) (by omega) (by omega), wr_id (x := (q : Int)) (by omega) (by omega), h2.1.cS (by omega) (by omega), wr_id (x := zS s2.1 q) (by omega) (by omega)]
      refine ⟨fun z => absurd z (by omega), fun _ => ⟨fun z => ?_, fun z => ?_⟩⟩
      · rw [if_neg z] at hq2
        exact hq2 g2 h2 o2
      · have z1 : zS s2.1 q = 1 := by omega
        rw [if_pos z1] at hq2
        refine k_speakOn h2 (by omega) (by omega) z1 fun g3 h3 o3 => bV_in ?_
        have hp3 := h3.2.1.pn (p := q) (by omega) (by omega)
        rw [h3.1.cS (by omega) (by omega), wr_id (x := zS (spkV s2.1 q) q) (by omega) (by omega)]
        refine ⟨fun w => ?_, fun w => ?_⟩
        · have := hq2 g3 h3 (o2.tr o3)
          rw [if_neg w] at this
          exact this
        · have := hq2 g3 h3 (o2.tr o3)
          rw [if_pos (by omega)] at this
          exact this
end KH
