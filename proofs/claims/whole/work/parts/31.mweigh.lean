/-! THE LAW: the reference's side -/
section ML
variable {Γ : Cfg} {l : Launch} {d b : Nat} {g : GG} {K : Ou → HP → Prop} {V : VV} {p : Int}
theorem m_218 {x1 i y3 c x y s0 : Int} {r : List Int} (hl : r.length ≤ 390) (hc : 11 ≤ c) (hc2 : c ≤ 16) (hs0 : c ≠ 11 → jnS c x y = (if s0 = 0 then 0 else 1)) (hs1 : s0 = 0 ∨ s0 = 1) (hsr : SR g 181 r)
    (hi : ∀ g', SR g' 181 (jnS c x y :: r) → (∀ a j, a ≠ 181 → g' a j = g a j) → AW Γ l mX12_holdsLine (d + 1) b 20 [vR 171, vI x1, vI ((r.length : Int) + 1), vI y3, vI (i + 1), vU, vU, vU, vU] [] (stt g') K) :
    AW Γ l mX12_holdsLine (d + 1) b 218 [vR 171, vI x1, vI ((r.length : Int) + 1), vI y3, vI i, vI c, vI x, vI y, vU] [vI s0] (stt g) K := by
  apply wpX12_holdsLine_218
  rw [wr_id (x := c) (by omega) (by omega), wr_id (x := s0) (by omega) (by omega), wr_id (x := (r.length : Int) + 1 - 1) (by omega) (by omega), show (r.length : Int) + 1 - 1 = (r.length : Int) by omega]
  have go : ∀ v, v = jnS c x y → AW Γ l mX12_holdsLine (d + 1) b 20 [vR 171, vI x1, vI ((r.length : Int) + 1), vI y3, vI (i + 1), vI c, vI x, vI y, vI s0] [] (stt (upd2 g 181 r.length v)) K := fun v hv => by
    subst hv
    exact AW.weak (hi _ ⟨upd2_eq, hsr.push (Int.le_refl _)⟩ (fun a j ha => upd2_ne ha)) (by simp [leP])
  refine ⟨fun q => ⟨fun q2 => ⟨by omega, go 0 ?_⟩, fun q2 => ⟨by omega, go 1 ?_⟩⟩, fun q => ⟨by omega, go _ ?_⟩⟩
  · rw [hs0 q, if_pos q2]
  · rw [hs0 q, if_neg q2]
  · unfold jnS; rw [if_pos (by omega)]
theorem m_holdsLine {n : Int} {c : CL} {m : Int} (h : RS g p m c) (hv : g 172 = V) (hV : WF V) (hc : okC c) (p0 : 0 ≤ p) (p1 : p < 6) (m0 : 0 ≤ m) (m1 : m ≤ 12) (n0 : 0 ≤ n) (n1 : n < 12) (hL : okL V n)
    (kk : ∀ g', onlyR g g' → RS g' p m c → K (.inl (vI (if hlS V (fcS p c m (whB V p m)) n = true then 1 else 0))) (stt g')) : Ct Γ l (d + 3) b yX12_holdsLine mX12_holdsLine [vR 171, vI n] (stt g) K := by
  have hf : okF (fcS p c m (whB V p m)) := okF_fcS hc (by unfold whB; omega)
  generalize hfc : fcS p c m (whB V p m) = fc at hf kk
  obtain ⟨o1, o2, o3, o4, o5⟩ := hL
  have eF : V (487 + 4 * n + 2) = lwF V n := rfl
  have eT : V (487 + 4 * n + 3) = lwT V n := rfl
  apply wpX12_holdsLine
  rw [hv, wr_id (x := 487 + 4 * n + 2) (by omega) (by omega), eF]
  refine ⟨by omega, ?_⟩
  -- the end of a line
  have fin : ∀ g' (st : List Int), SR g' 181 st → RS g' p m c → onlyR g g' → (hlS V fc n = true ↔ st = [] ∨ st = [1]) → (st = [] ∨ ∃ x, st = [x] ∧ (x = 0 ∨ x = 1)) → ∀ i, lwT V n ≤ i → i ≤ 400 → AW Γ l mX12_holdsLine (d + 3) b 20 [vR 171, vI n, vI st.length, vI (487 + 4 * n), vI i, vU, vU, vU, vU] [] (stt g') K := by
    intro g' st hsr hrs hon hh hs i i0 i1
    have hv' : g' 172 = V := hon.v.trans hv
    have kk' := kk g' hon hrs
    apply wpX12_holdsLine_20
    rw [hv', wr_id (x := 487 + 4 * n + 3) (by omega) (by omega), eT, wr_id (x := lwT V n) (by omega) (by omega), wr_id (x := i) (by omega) (by omega)]
    refine ⟨by omega, fun _ => ?_, fun q => absurd i0 q⟩
    rcases hs with rfl | ⟨x, rfl, hx⟩
    · rw [if_pos (hh.mpr (Or.inl rfl))] at kk'
      exact ⟨fun _ => kk', fun q => absurd wr_0 q⟩
    · have e0 : g' 181 0 = x := hsr.1
      rw [e0, wr_id (x := x) (by omega) (by omega)]
      refine ⟨fun q => absurd q (show ¬ wr ((1 : Nat) : Int) = 0 by decide +kernel), fun _ => ⟨fun q => ?_, fun q => ?_⟩⟩
      · rw [if_neg] at kk'
        · exact kk'
        · intro z
          rcases hh.mp z with z | z
          · cases z
          · injection z with z; exact q z
      · have : x = 1 := by omega
        subst this
        rw [if_pos (hh.mpr (Or.inr rfl))] at kk'
        exact kk'
  by_cases q : lwF V n = lwT V n
  · exact fin g [] trivial h onlyR.rf ⟨fun _ => Or.inl rfl, fun _ => by unfold hlS; rw [decide_eq_true q]; rfl⟩ (Or.inl rfl) _ (by omega) (by omega)
  obtain ⟨t1, t2⟩ := o4 (by omega)
  have hrg := tkS_rng t1
  rw [show lwF V n = lwF V n + ((0 : Nat) : Int) by omega]
  refine up_loop (P := fun k => ∀ g', SR g' 181 (lst V fc n k) → RS g' p m c → onlyR g g' → AW Γ l mX12_holdsLine (d + 3) b 20 [vR 171, vI n, vI (lst V fc n k).length, vI (487 + 4 * n), vI (lwF V n + k), vU, vU, vU, vU] [] (stt g') K) (N := (lwT V n - lwF V n).toNat) (fun g' hsr hrs hon => ?_) (fun k hk hi g' hsr hrs hon => ?_) 0 (Nat.zero_le _) g trivial h onlyR.rf
  · have htd : tyd (lst V fc n (lwT V n - lwF V n).toNat) [true] := stS_ty hf t1
    have hls : hlS V fc n = true ↔ lst V fc n (lwT V n - lwF V n).toNat = [1] := by
      unfold hlS
      rw [decide_eq_false q, Bool.false_or]
      exact decide_eq_true_iff
    refine fin g' _ hsr hrs hon ?_ ?_ _ (by omega) (by omega)
    · rw [hls]
      refine ⟨Or.inr, fun z => z.elim (fun e => ?_) id⟩
      rw [e] at htd
      exact htd.elim
    · revert htd
      generalize lst V fc n (lwT V n - lwF V n).toNat = st
      intro htd
      match st, htd with
      | [x], htd => exact Or.inr ⟨x, rfl, htd.1 rfl⟩
  · obtain ⟨ty, hty⟩ := tkS_le t1 k (by omega)
    obtain ⟨ty', hty'⟩ := tkS_le t1 (k + 1) (by omega)
    have hl1 := t2 k ty (by omega) hty
    have htd : tyd (lst V fc n k) ty := stS_ty hf hty
    have h3 := tyd_len htd
    have hst : tyS ty (lwC V (lwF V n + k)) = some ty' := by
      unfold tkS at hty'
      rw [hty] at hty'
      exact hty'
    have hc16 := (hrg k hk).2
    have hv' : g' 172 = V := hon.v.trans hv
    have eC : V (535 + 2 * (lwF V n + k)) = lwC V (lwF V n + k) := rfl
    have eA : V (535 + 2 * (lwF V n + k) + 1) = lwA V (lwF V n + k) := rfl
    have hi2 : ∀ g', SR g' 181 (evS fc (lst V fc n k) (lwC V (lwF V n + k)) (lwA V (lwF V n + k))) → RS g' p m c → onlyR g g' → AW Γ l mX12_holdsLine (d + 3) b 20 [vR 171, vI n, vI (evS fc (lst V fc n k) (lwC V (lwF V n + k)) (lwA V (lwF V n + k))).length, vI (487 + 4 * n), vI (lwF V n + ((k + 1 : Nat) : Int)), vU, vU, vU, vU] [] (stt g') K := hi
    rw [show lwF V n + ((k + 1 : Nat) : Int) = lwF V n + k + 1 by omega] at hi2
    have hle : (lst V fc n k).length ≤ 31 := by omega
    apply wpX12_holdsLine_20
    rw [hv', wr_id (x := 487 + 4 * n + 3) (by omega) (by omega), eT, wr_id (x := lwT V n) (by omega) (by omega), wr_id (x := lwF V n + k) (by omega) (by omega), wr_id (x := 535 + 2 * (lwF V n + k)) (by omega) (by omega), eC, wr_id (x := 535 + 2 * (lwF V n + k) + 1) (by omega) (by omega), eA]
    refine ⟨by omega, fun z => absurd z (by omega), fun _ => ⟨by omega, ?_⟩⟩
    have hii : 0 ≤ lwF V n + (k : Int) ∧ lwF V n + (k : Int) < 400 := by omega
    generalize lst V fc n k = st at hsr htd h3 hle hi2 ⊢
    generalize lwC V (lwF V n + k) = cc at *
    generalize lwA V (lwF V n + k) = aa at *
    generalize lwF V n + (k : Int) = ii at *
    have rs1 : ∀ g2, (∀ a j, a ≠ 181 → g2 a j = g' a j) → RS g2 p m c ∧ onlyR g g2 := fun g2 he => ⟨⟨fun f f0 f1 => by rw [he _ _ (by decide)]; exact hrs.1 f f0 f1, by rw [he _ _ (by decide)]; exact hrs.2.1, by rw [he _ _ (by decide)]; exact hrs.2.2⟩, fun a j hr => by rw [he a j (fun e => hr (Or.inr (Or.inl e))), hon a j hr]⟩
    have cc0 : 0 ≤ cc := tyS_cases hf (a := aa) htd hst (fun h _ _ _ => h) (fun h _ _ => by omega) (fun _ _ h _ _ _ _ => by omega) (fun _ _ _ h _ _ _ _ => by omega)
    rw [wr_id (x := cc) (by omega) (by omega)]
    have pushv : ∀ v, evS fc st cc aa = v :: st → cc ≤ 10 → (v = if cc ≤ 9 then fc cc else aa) → Ct Γ l (d + 2) 0 yX12_factOf mX12_factOf [vR 171, vI cc, vI aa] (stt g') (bI (fun v1 g2 => (0 ≤ wr (st.length : Int) ∧ wr (st.length : Int) < 400) ∧ (AW Γ l mX12_holdsLine (d + 3) b 20 [vR 171, vI n, vI ((st.length : Int) + 1), vI (487 + 4 * n), vI (ii + 1), vI cc, vU, vU, vU] [] (stt (upd2 g2 181 (wr (st.length : Int)) v1)) K)) K) := by
      intro v ev hcc hv9
      refine m_factOf hrs hv' hV hc p0 p1 m0 m1 cc0 hcc (bI_in ?_)
      rw [hfc, ← hv9, wr_id (x := (st.length : Int)) (by omega) (by omega)]
      have r9 := rs1 (upd2 g' 181 st.length v) (fun a j ha => upd2_ne ha)
      rw [ev] at hi2
      exact ⟨by omega, AW.weak (hi2 _ ⟨upd2_eq, hsr.push (Int.le_refl _)⟩ r9.1 r9.2) (by simp [leP])⟩
    refine tyS_cases hf (a := aa) htd hst (fun h0 h9 e _ => ?_) (fun h10 e _ => ?_) (fun x r h14 est hx e _ => ?_) (fun y x r hcx est hb e _ => ?_)
    · exact ⟨fun z => absurd z (by omega), fun _ => ⟨by omega, pushv _ e (by omega) (by rw [if_pos h9])⟩⟩
    · exact ⟨fun z => absurd z (by omega), fun _ => ⟨by omega, pushv _ e (by omega) (by rw [if_neg (by omega)])⟩⟩
    · subst est
      subst h14
      rw [e] at hi2
      simp only [List.length_cons] at hle hi2 ⊢
      refine ⟨fun _ => ⟨fun z => absurd trivial z, fun _ => ?_⟩, fun z => absurd (by decide) z⟩
      rw [show (((r.length + 1 : Nat) : Int)) - 1 = (r.length : Int) by omega, wr_id (x := (r.length : Int)) (by omega) (by omega), hsr.1]
      refine ⟨by omega, by omega, fun g1 e1 => ?_⟩
      rw [e1]
      have r9 := rs1 (upd2 g' 181 r.length (1 - x)) (fun a j ha => upd2_ne ha)
      exact AW.weak (hi2 _ ⟨upd2_eq, hsr.2.push (Int.le_refl _)⟩ r9.1 r9.2) (by simp [leP])
    · subst est
      rw [e] at hi2
      simp only [List.length_cons] at hle hi2 ⊢
      have hx : g' 181 (r.length : Int) = x := hsr.2.1
      have hy : g' 181 ((r.length : Int) + 1) = y := hsr.1
      rw [show (((r.length + 1 + 1 : Nat) : Int)) + (-1) = (r.length : Int) + 1 by omega, show ((r.length : Int) + 1 - 1) = (r.length : Int) by omega, wr_id (x := (r.length : Int)) (by omega) (by omega), wr_id (x := (r.length : Int) + 1) (by omega) (by omega), hx, hy]
      have h218 : ∀ s0, (cc ≠ 11 → jnS cc x y = (if s0 = 0 then 0 else 1)) → (s0 = 0 ∨ s0 = 1) → AW Γ l mX12_holdsLine (d + 3) b 218 [vR 171, vI n, vI ((r.length : Int) + 1), vI (487 + 4 * n), vI ii, vI cc, vI x, vI y, vU] [vI s0] (stt g') K := fun s0 hs0 hs1 =>
        m_218 (by omega) (by omega) hc16 hs0 hs1 hsr.2.2 fun g2 hs2 he2 => by
          have r9 := rs1 g2 he2
          exact hi2 g2 hs2 r9.1 r9.2
      unfold jnS at h218
      refine ⟨fun _ => ⟨fun _ => ⟨by omega, by omega, fun q12 => ⟨fun q13 => ⟨fun q15 => ⟨fun z => h218 0 (fun q11 => ?_) (Or.inl rfl), fun z => h218 1 (fun q11 => ?_) (Or.inr rfl)⟩, fun q15 => ⟨fun z => h218 0 (fun q11 => ?_) (Or.inl rfl), fun z => h218 1 (fun q11 => ?_) (Or.inr rfl)⟩⟩, fun q13 => ⟨fun z => h218 0 (fun q11 => ?_) (Or.inl rfl), fun z => h218 1 (fun q11 => ?_) (Or.inr rfl)⟩⟩, fun q12 => ⟨fun z => h218 0 (fun q11 => ?_) (Or.inl rfl), fun z => h218 1 (fun q11 => ?_) (Or.inr rfl)⟩⟩, fun z => absurd z (by omega)⟩, fun z => absurd (by omega) z⟩
      · have hb2 := hb (by omega)
        rw [wr_id (x := x + y) (by omega) (by omega)] at z
        rw [if_neg q11, if_neg q12, if_neg q13, if_neg q15, if_neg (by omega), if_pos rfl]
      · have hb2 := hb (by omega)
        rw [wr_id (x := x + y) (by omega) (by omega)] at z
        rw [if_neg q11, if_neg q12, if_neg q13, if_neg q15, if_pos (by omega), if_neg (by decide)]
      · have hb2 := hb (by omega)
        rw [wr_id (x := x + y) (by omega) (by omega)] at z
        rw [if_neg q11, if_neg q12, if_neg q13, if_pos (by omega), if_neg z, if_pos rfl]
      · have hb2 := hb (by omega)
        rw [wr_id (x := x + y) (by omega) (by omega)] at z
        rw [if_neg q11, if_neg q12, if_neg q13, if_pos (by omega), if_pos (by omega), if_neg (by decide)]
      · rw [if_neg q11, if_neg q12, if_pos (by omega), if_neg (by omega), if_pos rfl]
      · rw [if_neg q11, if_neg q12, if_pos (by omega), if_pos (by omega), if_neg (by decide)]
      · rw [if_neg q11, if_pos (by omega), if_neg (by omega), if_pos rfl]
      · rw [if_neg q11, if_pos (by omega), if_pos (by omega), if_neg (by decide)]
theorem m_sumOf {w : Int} {c : CL} {m : Int} (h : RS g p m c) (hv : g 172 = V) (hV : WF V) (hW : okLaw V) (hc : okC c) (p0 : 0 ≤ p) (p1 : p < 6) (m0 : 0 ≤ m) (m1 : m ≤ 12) (w0 : 0 ≤ w) (w1 : w ≤ 2)
    (kk : ∀ g', onlyR g g' → RS g' p m c → K (.inl (vI (sL V (fcS p c m (whB V p m)) w (V 486).toNat))) (stt g')) : Ct Γ l (d + 4) b yX12_sumOf mX12_sumOf [vR 171, vI w] (stt g) K := by
  have h1 := hW.1
  apply wpX12_sumOf
  refine up_loop (P := fun n => ∀ g', RS g' p m c → onlyR g g' → AW Γ l mX12_sumOf (d + 4) b 4 [vR 171, vI w, vI (sL V (fcS p c m (whB V p m)) w n), vI n] [] (stt g') K) (N := (V 486).toNat) (fun g' hrs hon => ?_) (fun n hn hi g' hrs hon => ?_) 0 (Nat.zero_le _) g h onlyR.rf
  · have hv' : g' 172 = V := hon.v.trans hv
    have kk' := kk g' hon hrs
    apply wpX12_sumOf_4
    rw [hv']
    refine ⟨fun _ => kk', fun _ => ⟨fun _ => kk', fun q => absurd (show wr (V 486) ≤ wr ((V 486).toNat : Int) by rw [wr_id (x := V 486) (by omega) (by omega), wr_id (by omega) (by omega)]; omega) q⟩⟩
  · have hv' : g' 172 = V := hon.v.trans hv
    have h2 : V 2 = 1 := by
      rcases hW.2.1 with z | z
      · have := hW.2.2.1 z; omega
      · exact z
    have hLn := hW.2.2.2 n (by omega) (by omega)
    have o1 := hLn.1
    have eW : V (487 + 4 * (n : Int)) = lwW V n := rfl
    have eN : V (487 + 4 * (n : Int) + 1) = lwN V n := rfl
    have es : sL V (fcS p c m (whB V p m)) w (n + 1) = (if lwW V n = w ∧ hlS V (fcS p c m (whB V p m)) n = true then sL V (fcS p c m (whB V p m)) w n + lwN V n else sL V (fcS p c m (whB V p m)) w n) := rfl
    rw [es] at hi
    apply wpX12_sumOf_4
    rw [hv', h2, wr_id (x := V 486) (by omega) (by omega), wr_id (x := (n : Int)) (by omega) (by omega), wr_id (x := 487 + 4 * (n : Int)) (by omega) (by omega), eW, wr_id (x := lwW V n) (by omega) (by omega), wr_id (x := w) (by omega) (by omega), wr_id (x := 487 + 4 * (n : Int) + 1) (by omega) (by omega)]
    refine ⟨fun q => absurd (show wr 1 = 1 by decide +kernel) q, fun _ => ⟨fun q => absurd q (by omega), fun _ => ⟨by omega, fun q => ?_, fun q => m_holdsLine hrs hv' hV hc p0 p1 m0 m1 (by omega) (by omega) hLn fun g2 hon2 hrs2 => bI_in ?_⟩⟩⟩
    · rw [if_neg (fun z => q z.1)] at hi
      exact hi g' hrs hon
    · have hv2 : g2 172 = V := hon2.v.trans hv'
      rw [hv2, eN]
      by_cases hh : hlS V (fcS p c m (whB V p m)) n = true
      · rw [if_pos hh]
        rw [if_pos ⟨by omega, hh⟩] at hi
        exact ⟨fun z => absurd z (by decide +kernel), fun _ => ⟨by omega, hi g2 hrs2 (hon.tr hon2)⟩⟩
      · rw [if_neg hh]
        rw [if_neg (fun z => hh z.2)] at hi
        exact ⟨fun _ => hi g2 hrs2 (hon.tr hon2), fun z => absurd wr_0 z⟩
theorem m_weighs {c : CL} {m : Int} (h : RS g p m c) (hv : g 172 = V) (hV : WF V) (hW : okLaw V) (hc : okC c) (p0 : 0 ≤ p) (p1 : p < 6) (m0 : 0 ≤ m) (m1 : m ≤ 12)
    (kk : ∀ g', onlyR g g' → RS g' p m c → K (.inl (vI (wgS V c (fcS p c m (whB V p m))))) (stt g')) : Ct Γ l (d + 5) b yX12_weighs mX12_weighs [vR 171] (stt g) K := by
  have c0 : g 179 0 = c 0 := h.1 0 (by decide) (by decide)
  have o0 := hc.1
  apply wpX12_weighs
  rw [c0, wr_id (x := c 0) (by omega) (by omega)]
  unfold wgS at kk
  refine ⟨fun q => m_baseOf h hc q (bI_in (m_sumOf h hv hV hW hc p0 p1 m0 m1 (by decide) (by decide) fun g2 h2 r2 => bI_in (m_sumOf r2 (h2.v.trans hv) hV hW hc p0 p1 m0 m1 (by decide) (by decide) fun g3 h3 r3 => bI_in ?_))), fun q => ?_⟩
  · have := kk g3 (h2.tr h3) r3
    rw [if_neg q] at this
    exact this
  · have := kk g onlyR.rf h
    rw [if_pos (by omega)] at this
    exact this
theorem m_hears {c : CL} {m : Int} (h : RS g p m c) (hv : g 172 = V) (hV : WF V) (hW : okLaw V) (hc : okC c) (p0 : 0 ≤ p) (p1 : p < 6) (m0 : 0 ≤ m) (m1 : m ≤ 12)
    (kk : ∀ g', onlyR g g' → RS g' p m c → K (.inl (vI (hrS V (fcS p c m (whB V p m))))) (stt g')) : Ct Γ l (d + 5) b yX12_hears mX12_hears [vR 171] (stt g) K := by
  apply wpX12_hears
  exact m_sumOf h hv hV hW hc p0 p1 m0 m1 (by decide) (by decide) fun g2 h2 r2 => bI_in (kk g2 h2 r2)
/-- words stand in their order -/
def inO (g : GG) : Prop := ∀ k, 0 ≤ k → k < 12 → g 180 k = k
theorem inO.r {g g' : GG} (h : inO g) (e : onlyR g g') : inO g' := fun k k0 k1 => by rw [e _ _ (by unfold rW; omega), h k k0 k1]
theorem m_weightAt {n : Int} (hv : g 172 = V) (hV : WF V) (hW : okLaw V) (ho : inO g) (p0 : 0 ≤ p) (p1 : p < 6) (n0 : 0 ≤ n) (n1 : n ≤ zL V p)
    (kk : ∀ g', RS g' p n (rdV V p n) → onlyR g g' → K (.inl (vI (wV V V p n))) (stt g')) : Ct Γ l (d + 6) b yX12_weightAt mX12_weightAt [vR 171, vI p, vI n] (stt g) K := by
  have hp := hV.pn p0 p1
  apply wpX12_weightAt
  exact m_readsO hv hV p0 p1 n0 n1 ho fun g1 h1 o1 => bV_in (m_weighs h1 (o1.v.trans hv) hV hW (hV.okR p0 p1 n0 n1) p0 p1 n0 (by omega) fun g2 o2 h2 => bI_in (kk g2 h2 (o1.tr o2)))
/-- what is told of a reading, by number -/
def tdS (V W : VV) (p n what : Int) : Int := if what = 6 then wV V W p n else if what = 7 then hV V W p n else rdV V p n what
theorem m_whatRead {n w : Int} (h : RS g p n (rdV V p n)) (hv : g 172 = V) (hV : WF V) (hW : okLaw V) (p0 : 0 ≤ p) (p1 : p < 6) (n0 : 0 ≤ n) (n1 : n ≤ zL V p) (w0 : 0 ≤ w) (w1 : w ≤ 7)
    (kk : ∀ g', onlyR g g' → K (.inl (vI (tdS V V p n w))) (stt g')) : Ct Γ l (d + 6) b yX12_whatRead mX12_whatRead [vR 171, vI w] (stt g) K := by
  have hp := hV.pn p0 p1
  have hc := hV.okR p0 p1 n0 n1
  apply wpX12_whatRead
  rw [wr_id (x := w) (by omega) (by omega)]
  unfold tdS at kk
  refine ⟨fun q => m_weighs h hv hV hW hc p0 p1 n0 (by omega) fun g2 h2 r2 => bI_in ?_, fun q => m_hears h hv hV hW hc p0 p1 n0 (by omega) fun g2 h2 r2 => bI_in ?_, fun q => ⟨by omega, ?_⟩⟩
  · have := kk g2 h2
    rw [if_pos q] at this
    exact this
  · have := kk g2 h2
    rw [if_neg (by omega), if_pos q] at this
    exact this
  · have := kk g onlyR.rf
    rw [if_neg q.1, if_neg q.2, ← h.1 w w0 (by omega)] at this
    exact this
end ML
