/-! HOURS: the reference's side, hour by hour -/
theorem hrP_sh (U : VV) (c : Int) : ∀ n : Nat, fd hrP (U, c) n = ((fd hrP (U, 0) n).1, c + (fd hrP (U, 0) n).2)
  | 0 => by
    show (U, c) = (U, c + 0)
    rw [Int.add_zero]
  | n + 1 => by
    have ih := hrP_sh U c n
    show hrP (fd hrP (U, c) n) n = ((hrP (fd hrP (U, 0) n) n).1, c + (hrP (fd hrP (U, 0) n) n).2)
    rw [ih]
    generalize fd hrP (U, 0) n = s
    unfold hrP
    by_cases q : zS s.1 n = 1
    · simp only [if_pos q, Int.add_assoc]
    · simp only [if_neg q]
theorem hrS1_sh (U : VV) (c : Int) : hrS1 (U, c) = ((hrS1 (U, 0)).1, c + (hrS1 (U, 0)).2) := by
  unfold hrS1
  rw [hrP_sh U c]
section MG
variable {Γ : Cfg} {l : Launch} {d b : Nat} {g : GG} {K : Ou → HP → Prop} {V : VV} {p : Int}
theorem m_oneHour (hv : g 172 = V) (hV : WF V) (hW : okLaw V) (ho : inO g) (kk : ∀ g', g' 172 = (hrS1 (V, 0)).1 → WF (hrS1 (V, 0)).1 → okLaw (hrS1 (V, 0)).1 → onlyM g g' → K (.inl (vI (hrS1 (V, 0)).2)) (stt g')) : Ct Γ l (d + 11) b yX12_oneHour mX12_oneHour [vR 171] (stt g) K := by
  have h6 := hV.1.1
  apply wpX12_oneHour
  unfold hrS1 at kk
  refine up_loop (P := fun q => ∀ g', g' 172 = (fd hrP (V, 0) q).1 → WF (fd hrP (V, 0) q).1 → okLaw (fd hrP (V, 0) q).1 → onlyM g g' → AW Γ l mX12_oneHour (d + 11) b 4 [vR 171, vI (fd hrP (V, 0) q).2, vI q] [] (stt g') K) (N := (V 0).toNat) (fun g' v' w' W' o' => ?_) (fun q hq9 hq g' v' w' W' o' => ?_) 0 (Nat.zero_le _) g hv hV hW onlyM.rf
  · have e0 : (fd hrP (V, 0) (V 0).toNat).1 0 = V 0 := hrP_0 (V, 0) (V 0).toNat
    have h4 := w'.1
    apply wpX12_oneHour_4
    rw [v', e0, wr_id (x := V 0) (by omega) (by omega), wr_id (x := ((V 0).toNat : Int)) (by omega) (by omega)]
    refine ⟨fun _ g1 e1 => ?_, fun z => absurd (show V 0 ≤ ((V 0).toNat : Int) by omega) z⟩
    have hm : 0 ≤ iMin 9999 ((fd hrP (V, 0) (V 0).toNat).1 4 + 1) ∧ iMin 9999 ((fd hrP (V, 0) (V 0).toNat).1 4 + 1) ≤ 9999 := by
      rw [iMin_id (by omega) (by omega) (by omega) (by omega)]
      omega
    have W3 : okLaw (upV (fd hrP (V, 0) (V 0).toNat).1 4 (iMin 9999 ((fd hrP (V, 0) (V 0).toNat).1 4 + 1))) := W'.cg (upV_ne (by decide)) fun j hj => upV_ne (by omega)
    exact kk g1 (by rw [e1, upd_v, v']) (w'.hou hm.1 hm.2) W3 (o'.tr (by rw [e1]; exact upd_m _ _ _))
  · have e0 : (fd hrP (V, 0) q).1 0 = V 0 := hrP_0 (V, 0) q
    have hp := w'.pn (p := q) (by omega) (by omega)
    have hq2 : ∀ g', g' 172 = (hrP (fd hrP (V, 0) q) q).1 → WF (hrP (fd hrP (V, 0) q) q).1 → okLaw (hrP (fd hrP (V, 0) q) q).1 → onlyM g g' → AW Γ l mX12_oneHour (d + 11) b 4 [vR 171, vI (hrP (fd hrP (V, 0) q) q).2, vI ((q : Int) + 1)] [] (stt g') K := hq
    generalize fd hrP (V, 0) q = s2 at v' w' W' hp e0 hq2 ⊢
    have e3 : ofP g' q 3 = zS s2.1 q ∧ okP q 3 := ofP_at v' (by omega) (by omega)
    unfold hrP at hq2
    apply wpX12_oneHour_4
    rw [v', e0, e3.1, wr_id (x := V 0) (by omega) (by omega), wr_id (x := (q : Int)) (by omega) (by omega), wr_id (x := zS s2.1 q) (by omega) (by omega)]
    refine ⟨fun z => absurd z (by omega), fun _ => ⟨e3.2, fun z => ?_, fun z => ?_⟩⟩
    · rw [if_neg z] at hq2
      exact hq2 g' v' w' W' o'
    · have z1 : zS s2.1 q = 1 := by omega
      rw [if_pos z1] at hq2
      refine m_speaksOn v' w' W' (ho.m o') (by omega) (by omega) z1 fun g2 v2 w2 W2 t2 o2 => bI_in ?_
      have ez : zS (spkV s2.1 q) q = zS (spk2 (spk1 s2.1 q) q) q := spk3_c _ _ (by omega)
      have he := heard_rng W2 q
      have h5 := w2.1
      rw [ez] at hq2
      by_cases c2 : zS (spk2 (spk1 s2.1 q) q) q = 2
      · rw [if_pos c2] at hq2 ⊢
        refine ⟨fun _ g3 e9 => ?_, fun z => absurd (show ¬ wr 1 = 0 by decide +kernel) z⟩
        rw [t2 c2, v2] at e9
        have hm : 0 ≤ iMin 9999 (spk2 (spk1 s2.1 q) q 5 + heardS (spk2 (spk1 s2.1 q) q) q) ∧ iMin 9999 (spk2 (spk1 s2.1 q) q 5 + heardS (spk2 (spk1 s2.1 q) q) q) ≤ 9999 := by
          rw [iMin_id (by omega) (by omega) (by omega) (by omega)]
          omega
        have ek : spkV s2.1 q = upV (spk2 (spk1 s2.1 q) q) 5 (iMin 9999 (spk2 (spk1 s2.1 q) q 5 + heardS (spk2 (spk1 s2.1 q) q) q)) := by
          unfold spkV spk3
          rw [if_pos c2]
        rw [ek] at hq2
        have W3 : okLaw (upV (spk2 (spk1 s2.1 q) q) 5 (iMin 9999 (spk2 (spk1 s2.1 q) q 5 + heardS (spk2 (spk1 s2.1 q) q) q))) := W2.cg (upV_ne (by decide)) fun j hj => upV_ne (by omega)
        exact hq2 g3 (by rw [e9, upd_v, v2]) (w2.ear hm.1 hm.2) W3 ((o'.tr o2).tr (by rw [e9]; exact upd_m _ _ _))
      · rw [if_neg c2] at hq2 ⊢
        have ek : spkV s2.1 q = spk2 (spk1 s2.1 q) q := by
          unfold spkV spk3
          rw [if_neg c2]
        rw [ek, Int.add_zero] at hq2
        exact ⟨fun z => absurd wr_0 z, fun _ => hq2 g2 v2 w2 W2 (o'.tr o2)⟩
theorem m_goesOn {n : Nat} (hn9 : n ≤ 60) (hv : g 172 = V) (hV : WF V) (hW : okLaw V) (ho : inO g) (kk : ∀ g', g' 172 = (psS V n).1 → WF (psS V n).1 → okLaw (psS V n).1 → onlyM g g' → K (.inl (vI (psS V n).2)) (stt g')) : Ct Γ l (d + 12) b yX12_goesOn mX12_goesOn [vR 171, vI n] (stt g) K := by
  apply wpX12_goesOn
  refine up_loop (P := fun i => ∀ g', g' 172 = (psS V i).1 → WF (psS V i).1 → okLaw (psS V i).1 → onlyM g g' → AW Γ l mX12_goesOn (d + 12) b 4 [vR 171, vI n, vI (psS V i).2, vI i] [] (stt g') K) (N := n) (fun g' v' w' W' o' => ?_) (fun i hi9 hi g' v' w' W' o' => ?_) 0 (Nat.zero_le _) g hv hV hW onlyM.rf
  · apply wpX12_goesOn_4
    exact ⟨fun _ => kk g' v' w' W' o', fun z => absurd (Int.le_refl _) z⟩
  · have hi2 : ∀ g', g' 172 = (hrS1 (psS V i)).1 → WF (hrS1 (psS V i)).1 → okLaw (hrS1 (psS V i)).1 → onlyM g g' → AW Γ l mX12_goesOn (d + 12) b 4 [vR 171, vI n, vI (hrS1 (psS V i)).2, vI ((i : Int) + 1)] [] (stt g') K := hi
    apply wpX12_goesOn_4
    rw [wr_id (x := (n : Int)) (by omega) (by omega), wr_id (x := (i : Int)) (by omega) (by omega)]
    refine ⟨fun z => absurd z (by omega), fun _ => ?_⟩
    generalize psS V i = st at v' w' W' hi2 ⊢
    obtain ⟨U, c⟩ := st
    rw [hrS1_sh U c] at hi2
    exact m_oneHour v' w' W' (ho.m o') fun g2 v2 w2 W2 o2 => bI_in (hi2 g2 v2 w2 W2 (o'.tr o2))
end MG
