/-! TRIALS, IMAGES AND THE REST: laws as they lie, copies, the class's side -/
def sameL (W W' : VV) : Prop := ∀ j, 486 ≤ j → j < 1335 → W' j = W j
theorem tkS_cg {q q' : Int → Int} : ∀ {k : Nat}, (∀ j : Nat, j < k → q' j = q j) → tkS q' k = tkS q k
  | 0, _ => rfl
  | k + 1, h => by
    have ih := tkS_cg (q := q) (q' := q') (k := k) (fun j hj => h j (by omega))
    unfold tkS
    rw [ih, h k (by omega)]
theorem okL_cg9 {W W' : VV} (h : sameL W W') {n : Int} (n0 : 0 ≤ n) (n1 : n < 12) (hn : okL W n) : okL W' n := by
  obtain ⟨o1, o2, o3, o4, o5⟩ := hn
  have e1 : lwW W' n = lwW W n := h _ (by omega) (by omega)
  have e2 : lwN W' n = lwN W n := h _ (by omega) (by omega)
  have e3 : lwF W' n = lwF W n := h _ (by omega) (by omega)
  have e4 : lwT W' n = lwT W n := h _ (by omega) (by omega)
  have ec : ∀ i, lwF W n ≤ i → i < lwT W n → lwC W' i = lwC W i := fun i i0 i1 => h _ (by omega) (by omega)
  have ea : ∀ i, lwF W n ≤ i → i < lwT W n → lwA W' i = lwA W i := fun i i0 i1 => h _ (by omega) (by omega)
  have et : ∀ k : Nat, (k : Int) ≤ lwT W n - lwF W n → tkS (fun i => lwC W' (lwF W n + i)) k = tkS (fun i => lwC W (lwF W n + i)) k := fun k hk => tkS_cg fun j hj => ec _ (by omega) (by omega)
  unfold okL
  rw [e1, e2, e3, e4]
  refine ⟨o1, o2, o3, fun hl => ?_, fun i i0 i1 hi => ?_⟩
  · obtain ⟨q1, q2⟩ := o4 hl
    exact ⟨by rw [et _ (by omega)]; exact q1, fun k ty hk ht => q2 k ty hk (by rw [← et k hk]; exact ht)⟩
  · rw [ea i i0 i1]
    exact o5 i i0 i1 (by rw [← ec i i0 i1]; exact hi)
theorem okLaw.cg9 {W W' : VV} (h : okLaw W) (h2 : W' 2 = W 2) (e : sameL W W') : okLaw W' := by
  have e6 : W' 486 = W 486 := e _ (by decide) (by decide)
  unfold okLaw
  rw [e6, h2]
  exact ⟨h.1, h.2.1, h.2.2.1, fun n n0 n1 => okL_cg9 e n0 (by have := h.1; omega) (h.2.2.2 n n0 n1)⟩
theorem psL_cg9 {W W' : VV} (e : sameL W W') (n : Nat) (hn : n ≤ 12) : psL W' n = psL W n := fd_ext fun x k hk => by
  have e3 : lwF W' k = lwF W k := e _ (by omega) (by omega)
  have e4 : lwT W' k = lwT W k := e _ (by omega) (by omega)
  rw [e3, e4]
theorem LRel.cg9 {g : GG} {t : Int} {W W' : VV} (h : LRel g t W) (hW : okLaw W) (h2 : W' 2 = W 2) (e : sameL W W') : LRel g t W' := by
  have e6 : W' 486 = W 486 := e _ (by decide) (by decide)
  have h9 := hW.1
  obtain ⟨a0, ⟨a1, a2, a3, a4⟩, a5⟩ := h
  refine ⟨a0, ⟨by rw [e6, a1], by rw [h2, a2], by rw [e6, psL_cg9 e _ (by omega), a3], by rw [e6, psL_cg9 e _ (by omega)]; exact a4⟩, fun n hn => ?_⟩
  rw [e6] at hn
  have ok := (hW.2.2.2 n (by omega) hn).2.2.1
  obtain ⟨b1, b2, b3⟩ := a5 n hn
  have e1 : lwW W' n = lwW W n := e _ (by omega) (by omega)
  have e2 : lwN W' n = lwN W n := e _ (by omega) (by omega)
  have e3 : lwF W' n = lwF W n := e _ (by omega) (by omega)
  have e4 : lwT W' n = lwT W n := e _ (by omega) (by omega)
  rw [e1, e2, e3, e4, psL_cg9 e _ (by omega), psL_cg9 e _ (by omega)]
  refine ⟨b1, b2, fun k hk => ?_⟩
  have ec : lwC W' (lwF W n + k) = lwC W (lwF W n + k) := e _ (by omega) (by omega)
  have ea : lwA W' (lwF W n + k) = lwA W (lwF W n + k) := e _ (by omega) (by omega)
  rw [ec, ea]
  exact b3 k hk
/-- where steps lie within the row -/
theorem psL_mono {W : VV} (hW : okLaw W) : ∀ n : Nat, (n : Int) ≤ W 486 → 0 ≤ psL W n ∧ ∀ i : Nat, i < n → psL W (i + 1) ≤ psL W n
  | 0, _ => ⟨Int.le_refl _, fun i hi => absurd hi (by omega)⟩
  | n + 1, hn => by
    have ih := psL_mono hW n (by omega)
    have ok := (hW.2.2.2 n (by omega) (by omega)).2.2.1
    have e : psL W (n + 1) = psL W n + (if lwF W n = lwT W n then 2 else lwT W n - lwF W n + 1) := rfl
    refine ⟨by rw [e]; omega, fun i hi => ?_⟩
    by_cases c : i = n
    · rw [c]; exact Int.le_refl _
    · have := ih.2 i (by omega)
      rw [e]; omega
/-- a law is as another one lies -/
theorem LRel.cp {g g' : GG} {t t1 : Int} {W : VV} (h : LRel g t1 W) (hW : okLaw W) (ht : LA t) (e : ∀ j, 2 ≤ j → j < 5 → g' t j = g t1 j) (e2 : ∀ j, 0 ≤ j → j < 400 → g' (t + 1 + 0) j = g (t1 + 1 + 0) j) : LRel g' t W := by
  obtain ⟨a0, ⟨a1, a2, a3, a4⟩, a5⟩ := h
  have h9 := hW.1
  refine ⟨ht, ⟨by rw [e _ (by decide) (by decide), a1], by rw [e _ (by decide) (by decide), a2], by rw [e _ (by decide) (by decide), a3], a4⟩, fun n hn => ?_⟩
  have ok := (hW.2.2.2 n (by omega) hn).2.2.1
  have pm := psL_mono hW (W 486).toNat (by omega)
  have pn := psL_mono hW n (by omega)
  have pl := pm.2 n (by omega)
  have es : psL W (n + 1) = psL W n + (if lwF W n = lwT W n then 2 else lwT W n - lwF W n + 1) := rfl
  obtain ⟨b1, b2, b3⟩ := a5 n hn
  refine ⟨?_, fun c => ?_, fun k hk => ?_⟩
  · rw [e2 _ (by omega) (by omega), b1]
  · rw [if_pos c] at es
    rw [e2 _ (by omega) (by omega), b2 c]
  · have : ¬ lwF W n = lwT W n := by omega
    rw [if_neg this] at es
    rw [e2 _ (by omega) (by omega), b3 k hk]
section OT
variable {Γ : Cfg} {l : Launch} {d b : Nat} {g m : GG} {K : Ou → HP → Prop} {V : VV} {p q n k : Int}
theorem k_lawCopy {t t1 : Int} (ht : LA t) (h : LRel g t1 V) (hW : okLaw V) (hn : t ≠ t1) (hap : t + 2 < t1 ∨ t1 + 2 < t) (kk : ∀ g', LRel g' t V → (∀ a j, a ≠ t + 1 + 0 → ¬ (a = t ∧ 2 ≤ j ∧ j < 5) → g' a j = g a j) → K (.inl vU) (stt g')) : Ct Γ l (d + 1) b yX4_copy mX4_copy [vR t, vR t1] (stt g) K := by
  have l0 := ht.l0
  have l1 := h.1.l0
  have h4 := h.2.1.2.1
  have h2 := hW.2.1
  apply wpX4_copy ht h.1
  rw [l0, l1]
  refine ⟨by omega, fun g1 e1 g2 e2 => ?_⟩
  have c1 : ∀ a j, a ≠ t + 1 + 0 → g1 a j = g a j := fun a j ha => by
    rw [e1]
    exact if_neg (fun z => ha z.1)
  have d1 : ∀ j, 0 ≤ j → j < 400 → g1 (t + 1 + 0) j = g (t1 + 1 + 0) j := fun j j0 j1 => by
    rw [e1]
    unfold cpy
    rw [if_pos ⟨rfl, j0, by omega⟩, show (0 : Int) + (j - 0) = j by omega]
  have f4 : g2 t1 4 = V 2 := by rw [e2, upd2_ne (by omega), upd2_ne (by omega), c1 _ _ (by omega), h4]
  rw [f4, wr_id (x := V 2) (by omega) (by omega)]
  refine ⟨h2, kk _ (h.cp hW ht (fun j j0 j1 => ?_) (fun j j0 j1 => ?_)) (fun a j ha hj => ?_)⟩
  · have : j = 2 ∨ j = 3 ∨ j = 4 := by omega
    rcases this with rfl | rfl | rfl
    · rw [upd2_nj (by decide), e2, upd2_nj (by decide), upd2_eq, c1 _ _ (by omega)]
    · rw [upd2_nj (by decide), e2, upd2_eq, upd2_ne (by omega), c1 _ _ (by omega)]
    · rw [upd2_eq, h4]
  · rw [upd2_ne (by omega), e2, upd2_ne (by omega), upd2_ne (by omega), d1 j j0 j1]
  · by_cases x : a = t
    · rw [x, upd2_nj (by omega), e2, upd2_nj (by omega), upd2_nj (by omega), c1 _ _ (by omega)]
    · rw [upd2_ne x, e2, upd2_ne x, upd2_ne x, c1 _ _ ha]
noncomputable def s_gainsay (V : VV) (p q : Int) : Int × Int := if (0 ≤ p ∧ p < V 0) ∧ (0 ≤ q ∧ q < V 0) then (if p = q then (2, 0) else (0, @ite _ (odS V p q) (Classical.propDecidable _) 1 0)) else (1, 0)
theorem k_gainsay (h : CS g V V) (hz : ZP V) (hb : 3 ≤ b) (hp : wr p = p) (hq : wr q = q) (kk : ∀ g', kC g g' → K (oc [eIO, eIA] (s_gainsay V p q)) (stt g')) : Ct Γ l (d + 6) b yX11_gainsay mX11_gainsay [vR 1, vI p, vI q] (stt g) K := by
  have h6 := h.2.1.1.1
  unfold s_gainsay at kk
  apply wpX11_gainsay hb
  refine k_needPerson h (by decide) hp (fun p0 p1 => bV_in ?_) (fun z => bV_th (by rw [if_neg (fun c => z c.1)] at kk; exact kk g kC.rf))
  refine k_needPerson h (by decide) hq (fun q0 q1 => bV_in ?_) (fun z => bV_th (by rw [if_neg (fun c => z c.2)] at kk; exact kk g kC.rf))
  rw [if_pos ⟨⟨p0, p1⟩, q0, q1⟩] at kk
  refine k_needTwo (by decide) hp hq (fun ne => bV_in ?_) (fun z => bV_th (by rw [if_pos z] at kk; exact kk g kC.rf))
  rw [if_neg ne] at kk
  refine k_areAtOdds h hz p0 (by omega) q0 (by omega) (fun o g' og => bI_in ⟨Or.inr (by decide +kernel), ?_⟩) (fun o g' og => bI_in ⟨Or.inl wr_0, ?_⟩)
  · rw [if_pos o] at kk; exact kk g' og.c
  · rw [if_neg o] at kk; exact kk g' og.c
def s_trial (V : VV) (n e : Int) : Int × Int := if 0 ≤ n ∧ n ≤ 60 then (0, if e = 0 then btS (psS V n.toNat).1 2 else (psS V n.toNat).1 5) else (1, 0)
theorem CS.draft {g1 : GG} (h : CS g V V) (h1 : HRel g1 17 V) (o : onlyH g g1 17) : CT g1 17 V := ⟨h1, h.2.1, h.2.2.1.fr (fun j hj => o _ _ (by omega)) (fun j => o _ _ (by omega)), h.2.2.2⟩
theorem hi17 : HI 17 := show (17 : Int) ∈ ([8, 17, 26, 45, 54, 63, 72, 81, 90, 99, 108, 117, 126, 135, 144] : List Int) by decide +kernel
theorem onlyH.c17 {g g' : GG} (h : onlyH g g' 17) : kC g g' := fun a j hs => h a j (by unfold cS at hs; omega)
theorem k_trial {e : Int} (h : CS g V V) (hb : 1 ≤ b) (hn : wr n = n) (he : wr e = e) (kk : ∀ g', kC g g' → K (oc [eIA] (s_trial V n e)) (stt g')) : Ct Γ l (d + 7) b yX11_trial mX11_trial [vR 1, vI n, vI e] (stt g) K := by
  unfold s_trial at kk
  apply wpX11_trial hb
  rw [he]
  refine k_needNumber (by decide) hn (by decide) (by decide) (by decide) (by decide) (fun n0 n1 => bV_in ?_) (fun z => bV_th (by rw [if_neg z] at kk; exact kk g kC.rf))
  rw [if_pos ⟨n0, n1⟩] at kk
  obtain ⟨i, rfl⟩ : ∃ i : Nat, n = i := ⟨n.toNat, by omega⟩
  rw [Int.toNat_natCast] at kk
  refine k_copy hi17 h.1 h.2.1 (by decide) fun g1 h1 o1 => bV_in ?_
  refine k_passHours (n := i) (by omega) (h.draft h1 o1) fun g2 c2 o2 => bI_in ?_
  have c12 : kC g g2 := o1.c17.tr (o2.c rfl)
  refine ⟨fun z => k_bitsOf c2.1 c2.2.1 (by decide) (by decide) (bI_in ?_), fun z => ?_⟩
  · rw [if_pos z] at kk; exact kk g2 c12
  · rw [if_neg z] at kk; rw [c2.1.ear]; exact kk g2 c12
def spS (V : VV) (n e : Int) (k : Nat) : Int := fd (fun x i => if x = -1 then (psS (upV V 7 (i + 1)) n.toNat).1 5 else if e = 0 then iMin x ((psS (upV V 7 (i + 1)) n.toNat).1 5) else iMax x ((psS (upV V 7 (i + 1)) n.toNat).1 5)) (-1) k
def s_span (V : VV) (n e : Int) : Int × Int := if 0 ≤ n ∧ n ≤ 60 then (0, spS V n e 6) else (1, 0)
theorem see_ok (hV : WF V) (hW : okLaw V) (hz : ZQ V) (s : Int) : WF (upV V 7 s) ∧ okLaw (upV V 7 s) ∧ ZQ (upV V 7 s) := ⟨hV.see s, hW.cg (upV_ne (by decide)) (fun j hj => upV_ne (by omega)), hz.up hV (by decide) (Or.inl (by decide))⟩
theorem sp_ear (hV : WF V) (hW : okLaw V) (hz : ZQ V) (s : Int) (n : Nat) : 0 ≤ (psS (upV V 7 s) n).1 5 ∧ (psS (upV V 7 s) n).1 5 ≤ 9999 := by
  have o := see_ok hV hW hz s
  have := (ps_ok o.1 o.2.1 o.2.2 n).1.1
  omega
theorem spS_rng (hV : WF V) (hW : okLaw V) (hz : ZQ V) (n e : Int) : ∀ k : Nat, -1 ≤ spS V n e k ∧ spS V n e k ≤ 9999 :=
  fd_ind (P := fun _ x => -1 ≤ x ∧ x ≤ 9999) ⟨by decide, by decide⟩ fun k x hx => by
    have se := sp_ear hV hW hz (k + 1) n.toNat
    by_cases c : x = -1
    · simp only [if_pos c]; omega
    · simp only [if_neg c]
      rw [iMin_id (by omega) (by omega) (by omega) (by omega), iMax_id (by omega) (by omega) (by omega) (by omega)]
      omega
theorem k_span {e : Int} (h : CS g V V) (hz : ZQ V) (hb : 2 ≤ b) (hn : wr n = n) (he : wr e = e) (kk : ∀ g', kC g g' → K (oc [eIA] (s_span V n e)) (stt g')) : Ct Γ l (d + 7) b yX11_span mX11_span [vR 1, vI n, vI e] (stt g) K := by
  unfold s_span at kk
  apply wpX11_span (by omega)
  refine k_needNumber (by decide) hn (by decide) (by decide) (by decide) (by decide) (fun n0 n1 => bV_in ?_) (fun z => bV_th (by rw [if_neg z] at kk; exact kk g kC.rf))
  rw [if_pos ⟨n0, n1⟩] at kk
  have wm : wr (-1) = -1 := by decide +kernel
  refine up_loop (P := fun i => ∀ g1, kC g g1 → AW Γ l mX11_span (d + 7) (b - 1) 12 [vR 1, vI n, vI e, vI (spS V n e i), vI ((i : Int) + 1), vU] [] (stt g1) K) (N := 6) (fun g1 c1 => ?_) (fun i hi9 hi g1 c1 => ?_) 0 (Nat.zero_le _) g kC.rf
  · apply wpX11_span_12 (by omega)
    exact ⟨fun _ => kk g1 c1, fun c => absurd (show 6 < wr (((6 : Nat) : Int) + 1) by decide +kernel) c⟩
  · have h1 := h.kc c1
    have rg := spS_rng h.2.1 h.2.2.2 hz n e i
    have se := sp_ear h.2.1 h.2.2.2 hz ((i : Int) + 1) n.toNat
    have hi2 : ∀ g1 : GG, kC g g1 → ∀ v : AV, AW Γ l mX11_span (d + 7) (b - 1) 12 [vR 1, vI n, vI e, vI (if spS V n e i = -1 then (psS (upV V 7 ((i : Int) + 1)) n.toNat).1 5 else if e = 0 then iMin (spS V n e i) ((psS (upV V 7 ((i : Int) + 1)) n.toNat).1 5) else iMax (spS V n e i) ((psS (upV V 7 ((i : Int) + 1)) n.toNat).1 5)), vI ((i : Int) + 1 + 1), v] [] (stt g1) K := fun g1 c1 v => AW.weak (hi g1 c1) (by simp [leP]; rfl)
    apply wpX11_span_12 (by omega)
    rw [wr_id (x := (i : Int) + 1) (by omega) (by omega)]
    refine ⟨fun c => absurd c (by omega), fun _ => k_copy hi17 h1.1 h1.2.1 (by decide) fun g2 h2 o2 => bV_in ?_⟩
    have c2 := h1.draft h2 o2
    have o3 : onlyH g2 (upd2 g2 17 13 ((i : Int) + 1)) 17 := fun a j ha => upd2_ne (by omega)
    have c3 : CT (upd2 g2 17 13 ((i : Int) + 1)) 17 (upV V 7 ((i : Int) + 1)) := c2.up (c2.1.fld (f := 13) (by decide) (by decide) c2.2.1.1.2.2.2.2.2.2) (c2.2.1.see _) (upV_ne (by decide)) (fun j hj => upV_ne (by omega)) o3
    have en : n = ((n.toNat : Nat) : Int) := by omega
    generalize spS V n e i = x at rg hi2 ⊢
    have pass := k_passHours (Γ := Γ) (l := l) (d := d) (b := 0) (n := n.toNat) (by omega) c3 (K := bI (fun v1 g2 => (wr e = 0 → (wr x ≤ wr (g2 17 12) → (wr x = -1 → AW Γ l mX11_span (d + 7) (b - 1) 12 [vR 1, vI n, vI e, vI (g2 17 12), vI ((i : Int) + 1 + 1), vI 0] [] (stt g2) K) ∧ (¬ (wr x = -1) → AW Γ l mX11_span (d + 7) (b - 1) 12 [vR 1, vI n, vI e, vI x, vI ((i : Int) + 1 + 1), vI 0] [] (stt g2) K)) ∧ (¬ (wr x ≤ wr (g2 17 12)) → (wr x = -1 → AW Γ l mX11_span (d + 7) (b - 1) 12 [vR 1, vI n, vI e, vI (g2 17 12), vI ((i : Int) + 1 + 1), vI 1] [] (stt g2) K) ∧ (¬ (wr x = -1) → AW Γ l mX11_span (d + 7) (b - 1) 12 [vR 1, vI n, vI e, vI (g2 17 12), vI ((i : Int) + 1 + 1), vI 1] [] (stt g2) K))) ∧ (¬ (wr e = 0) → (wr (g2 17 12) ≤ wr x → (wr x = -1 → AW Γ l mX11_span (d + 7) (b - 1) 12 [vR 1, vI n, vI e, vI (g2 17 12), vI ((i : Int) + 1 + 1), vI 0] [] (stt g2) K) ∧ (¬ (wr x = -1) → AW Γ l mX11_span (d + 7) (b - 1) 12 [vR 1, vI n, vI e, vI x, vI ((i : Int) + 1 + 1), vI 0] [] (stt g2) K)) ∧ (¬ (wr (g2 17 12) ≤ wr x) → (wr x = -1 → AW Γ l mX11_span (d + 7) (b - 1) 12 [vR 1, vI n, vI e, vI (g2 17 12), vI ((i : Int) + 1 + 1), vI 1] [] (stt g2) K) ∧ (¬ (wr x = -1) → AW Γ l mX11_span (d + 7) (b - 1) 12 [vR 1, vI n, vI e, vI (g2 17 12), vI ((i : Int) + 1 + 1), vI 1] [] (stt g2) K)))) K) fun g4 c4 o4 => bI_in ?_
    · rw [← en] at pass
      exact pass
    · have hk := hi2 g4 (((c1.tr o2.c17).tr o3.c17).tr (o4.c rfl))
      rw [he, c4.1.ear, wr_id (x := x) (by omega) (by omega), wr_id (x := (psS (upV V 7 ((i : Int) + 1)) n.toNat).1 5) (by omega) (by omega)]
      generalize (psS (upV V 7 ((i : Int) + 1)) n.toNat).1 5 = y at se hk ⊢
      rw [iMin_id (by omega) (by omega) (by omega) (by omega), iMax_id (by omega) (by omega) (by omega) (by omega)] at hk
      refine ⟨fun z => ⟨fun z2 => ⟨fun z3 => ?_, fun z3 => ?_⟩, fun z2 => ⟨fun z3 => ?_, fun z3 => ?_⟩⟩, fun z => ⟨fun z2 => ⟨fun z3 => ?_, fun z3 => ?_⟩, fun z2 => ⟨fun z3 => ?_, fun z3 => ?_⟩⟩⟩
      · rw [if_pos z3] at hk; exact hk _
      · rw [if_neg z3, if_pos z, if_neg (by omega)] at hk; exact hk _
      · rw [if_pos z3] at hk; exact hk _
      · rw [if_neg z3, if_pos z, if_pos (by omega)] at hk; exact hk _
      · rw [if_pos z3] at hk; exact hk _
      · rw [if_neg z3, if_neg z, if_neg (by omega)] at hk; exact hk _
      · rw [if_pos z3] at hk; exact hk _
      · rw [if_neg z3, if_neg z, if_pos (by omega)] at hk; exact hk _
end OT
