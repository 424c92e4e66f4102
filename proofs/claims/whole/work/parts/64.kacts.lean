/-! THE ACTS: the class's side -/
section KA
variable {Γ : Cfg} {l : Launch} {d b : Nat} {g m : GG} {K : Ou → HP → Prop} {p q n k : Int}
theorem RemC.cs {g1 : GG} {V : VV} (r : RemC g g1 m) (h : CS g V V) : CS g1 V V :=
  ⟨h.1.fr fun a j a0 a1 => r.1 a j (by unfold cR; omega), h.2.1, h.2.2.1.fr (fun j hj => r.1 _ _ (by unfold cR; omega)) (fun j => r.1 _ _ (by unfold cR; omega)), h.2.2.2⟩
theorem CRel.cs (h : CRel g m) : CS g (m 172) (m 172) := h.1.1
theorem RemC.u {g1 : GG} (r : RemC g g1 m) : uC g g1 := fun a j ha => r.1 a j (by unfold cR; omega)
/-- what an act leaves beside its hills -/
def fA (g1 g2 : GG) : Prop := ∀ a j, (171 ≤ a ∨ cX a j) → ¬ (8 ≤ a ∧ a ≤ 16) → g2 a j = g1 a j
theorem fA.rf {g : GG} : fA g g := fun _ _ _ _ => rfl
theorem fA.tr {g g1 g2 : GG} (h : fA g g1) (h2 : fA g1 g2) : fA g g2 := fun a j a1 a2 => by rw [h2 a j a1 a2, h a j a1 a2]
theorem onlyH.f {g g' : GG} (h : onlyH g g' 8) : fA g g' := fun a j _ a2 => h a j (by omega)
theorem onlyT.f {g g' : GG} (h : onlyT g g' 8) : fA g g' := fun a j a1 a2 => h a j (by unfold sW cW; unfold cX at a1; omega) (by omega)
theorem onlyS.f {g g' : GG} (h : onlyS g g') : fA g g' := fun a j a1 a2 => h a j (by unfold sW cW; unfold cX at a1; omega)
theorem actE {g1 g2 : GG} {V' : VV} {L : List String} {s : Int × Int} {v : Int} (kk : aC L m g s V' K) (e : s = (0, v)) (h : CRel g m) (r : RemC g g1 m) (hv : CS g2 V' V') (z : ZQ V') (e2 : V' 2 = m 172 2) (f : fA g1 g2) : K (.inl (vI v)) (stt g2) :=
  aC_ok kk e (fun a j ha => by rw [f a j (Or.inl ha) (by omega), r.u a j ha]) (act_CA h r hv z e2 (fun a j hx hn => f a j (Or.inr hx) hn))
theorem k_begin (h : CRel g m) (hb : 2 ≤ b) (hp : wr p = p) (kk : aC [eIO, eIS] m g (s_begin (m 172) p) (setS (m 172) p 1 0) K) : Ct Γ l (d + 3) b yX11_begin mX11_begin [vR 1, vI p] (stt g) K := by
  have h6 := h.cs.2.1.1.1
  apply wpX11_begin hb
  refine k_needPerson h.cs (by decide) hp (fun p0 p1 => bV_in ?_) (fun z => bV_th (aC_th kk (by unfold s_begin; rw [if_neg z]) (by decide) rfl h))
  refine k_needState h.cs (by decide) p0 p1 (by decide) (by decide) (fun z => bV_in ?_) (fun z => bV_th (aC_th kk (by unfold s_begin; rw [if_pos ⟨p0, p1⟩, if_neg z]) (by decide) rfl h))
  refine k_remember h fun g1 r => bV_in ?_
  have c1 : CT g1 8 (m 172) := r.cs h.cs
  have hq := h.cs.2.1.pn p0 (show p < 6 by omega)
  have w2 := h.cs.2.1.set (s := 1) (c := 0) p0 (show p < 6 by omega) (by decide) (by decide) (by decide) hq.1.1
  refine k_settle c1.1 c1.2.1 p0 (by omega) fun g2 h2 o2 => bV_in ?_
  have c2 : CT g2 8 (setS (m 172) p 1 0) := c1.up h2 w2 (setS_ne (by omega) (by omega)) (fun j hj => setS_ne (by omega) (by omega)) o2
  have el : cel g2 10 p = zL (m 172) p := (CS.n10 c2 p0 (by omega)).trans (setS_ne (by omega) (by omega))
  rw [el]
  exact actE kk (by unfold s_begin; rw [if_pos ⟨p0, p1⟩, if_pos z]) h r c2 (h.1.2.set p0 p1 (by omega) (fun c => absurd c (by decide))) (setS_ne (by omega) (by omega)) o2.f
theorem k_stop (h : CRel g m) (hb : 3 ≤ b) (hp : wr p = p) (hk : wr k = k) (kk : aC [eIO, eIA, eIS] m g (s_stop (m 172) p k) (brkV (m 172) p k) K) : Ct Γ l (d + 5) b yX11_stop mX11_stop [vR 1, vI p, vI k] (stt g) K := by
  have h6 := h.cs.2.1.1.1
  apply wpX11_stop hb
  refine k_needPerson h.cs (by decide) hp (fun p0 p1 => bV_in ?_) (fun z => bV_th (aC_th kk (by unfold s_stop; rw [if_neg z]) (by decide) rfl h))
  refine k_needNumber (by decide) hk (by decide) (by decide) (by decide) (by decide) (fun k0 k1 => bV_in ?_) (fun z => bV_th (aC_th kk (by unfold s_stop; rw [if_pos ⟨p0, p1⟩, if_neg z]) (by decide) rfl h))
  refine k_needState h.cs (by decide) p0 p1 (by decide) (by decide) (fun z => bV_in ?_) (fun z => bV_th (aC_th kk (by unfold s_stop; rw [if_pos ⟨p0, p1⟩, if_pos ⟨k0, k1⟩, if_neg z]) (by decide) rfl h))
  refine k_remember h fun g1 r => bV_in ?_
  have c1 : CT g1 8 (m 172) := r.cs h.cs
  refine k_breakIn c1 p0 (by omega) k0 k1 fun g2 c2 _ o2 => bI_in ?_
  exact actE kk (by unfold s_stop; rw [if_pos ⟨p0, p1⟩, if_pos ⟨k0, k1⟩, if_pos z]) h r c2 (h.1.2.brk h.cs.2.1 p0 p1) (brkV_ne (by omega) (by omega) (by decide) (by decide)) o2.f
theorem k_finish (h : CRel g m) (hb : 2 ≤ b) (hp : wr p = p) (kk : aC [eIO, eIS] m g (s_finish (m 172) p) (heldT (m 172) p (zL (m 172) p) 5) K) : Ct Γ l (d + 5) b yX11_finish mX11_finish [vR 1, vI p] (stt g) K := by
  have h6 := h.cs.2.1.1.1
  apply wpX11_finish hb
  refine k_needPerson h.cs (by decide) hp (fun p0 p1 => bV_in ?_) (fun z => bV_th (aC_th kk (by unfold s_finish; rw [if_neg z]) (by decide) rfl h))
  refine k_needState h.cs (by decide) p0 p1 (by decide) (by decide) (fun z => bV_in ?_) (fun z => bV_th (aC_th kk (by unfold s_finish; rw [if_pos ⟨p0, p1⟩, if_neg z]) (by decide) rfl h))
  refine k_remember h fun g1 r => bV_in ?_
  have c1 : CT g1 8 (m 172) := r.cs h.cs
  have hq := h.cs.2.1.pn p0 (show p < 6 by omega)
  refine k_letFinish c1 p0 (by omega) fun g2 c2 _ o2 => bI_in ?_
  exact actE kk (by unfold s_finish; rw [if_pos ⟨p0, p1⟩, if_pos z]) h r c2 (h.1.2.hld h.cs.2.1 p0 p1 hq.1.1 (Int.le_refl _)) (heldT_ne (by omega) (by omega) (by decide) (by decide)) o2.f
theorem k_retract (h : CRel g m) (hb : 2 ≤ b) (hp : wr p = p) (kk : aC [eIO, eIS] m g (s_retract (m 172) p) (v_retract (m 172) p) K) : Ct Γ l (d + 4) b yX11_retract mX11_retract [vR 1, vI p] (stt g) K := by
  have h6 := h.cs.2.1.1.1
  apply wpX11_retract hb
  refine k_needPerson h.cs (by decide) hp (fun p0 p1 => bV_in ?_) (fun z => bV_th (aC_th kk (by unfold s_retract; rw [if_neg z]) (by decide) rfl h))
  refine k_needState h.cs (by decide) p0 p1 (by decide) (by decide) (fun z => bV_in ?_) (fun z => bV_th (aC_th kk (by unfold s_retract; rw [if_pos ⟨p0, p1⟩, if_neg z]) (by decide) rfl h))
  refine k_remember h fun g1 r => bV_in ?_
  have c1 : CT g1 8 (m 172) := r.cs h.cs
  have hq := h.cs.2.1.pn p0 (show p < 6 by omega)
  have e14 : cel g1 14 p = zC (m 172) p := CS.n14 c1 p0 (by omega)
  rw [e14]
  refine k_weight c1.1 c1.2.1 c1.2.2.1 c1.2.2.2 p0 (by omega) hq.2.2.2.2.1.1 hq.2.2.2.2.1.2 fun g2 t2 o2 => bI_in ?_
  have c2 := c1.os o2
  refine k_note c2.1 c2.2.1 fun g3 h3 o3 => bV_in ?_
  have w3 := c2.2.1.nte 6 (zC (m 172) p) (wV (m 172) (m 172) p (zC (m 172) p)) p
  have c3 : CT g3 8 (zNote (m 172) p 6 (zC (m 172) p) (wV (m 172) (m 172) p (zC (m 172) p))) := c2.up h3 w3 (zNote_ne (by decide) (by decide)) (fun j hj => zNote_ne (by omega) (by omega)) o3
  have hq3 := w3.pn p0 (show p < 6 by omega)
  have w4 := w3.set (s := 0) (c := 0) p0 (show p < 6 by omega) (by decide) (by decide) (by decide) hq3.1.1
  refine k_settle c3.1 c3.2.1 p0 (by omega) fun g4 h4 o4 => bV_in ?_
  have c4 : CT g4 8 (v_retract (m 172) p) := c3.up h4 w4 (setS_ne (by omega) (by omega)) (fun j hj => setS_ne (by omega) (by omega)) o4
  have z3 := h.1.2.nte h.cs.2.1 (p := p) (w := 6) (m := zC (m 172) p) (x := wV (m 172) (m 172) p (zC (m 172) p))
  have n0 : zNote (m 172) p 6 (zC (m 172) p) (wV (m 172) (m 172) p (zC (m 172) p)) 0 = m 172 0 := zNote_ne (by decide) (by decide)
  exact actE kk (by unfold s_retract; rw [if_pos ⟨p0, p1⟩, if_pos z]) h r c4 (z3.set p0 (by rw [n0]; exact p1) (by omega) (fun _ => rfl)) ((setS_ne (by omega) (by omega)).trans (zNote_ne (by decide) (by decide))) ((o2.f.tr o3.f).tr o4.f)
/-- one number of the hills is changed -/
theorem WF.one {V : VV} (h : WF V) {i v : Int} (hh : hdS (upV V i v)) (h0 : upV V i v 0 = V 0) (hm : ∀ r, 0 ≤ r → r < 4 → 0 ≤ upV V i v (8 + r) ∧ upV V i v (8 + r) ≤ 2) (hg : ∀ r, 0 ≤ r → r < 6 → 0 ≤ zG (upV V i v) r ∧ zG (upV V i v) r ≤ 9) (hn : i < 12 ∨ ∃ r, 0 ≤ r ∧ r < 6 ∧ i = 12 + 29 * r + 2) : WF (upV V i v) := by
  refine h.of hh hm (fun r r0 r1 => ?_) (fun r r0 r1 => ⟨?_, fun j j0 j1 => ?_⟩)
  · have hq := h.pn r0 r1
    have ne : ∀ c, 0 ≤ c → c < 5 → c ≠ 2 → upV V i v (12 + 29 * r + c) = V (12 + 29 * r + c) := fun c c0 c1 c2 => upV_ne (by
      rcases hn with hn | ⟨s, s0, s1, e⟩
      · omega
      · have : s = r ∨ s + 1 ≤ r ∨ r + 1 ≤ s := by omega
        omega)
    have a1 : zL (upV V i v) r = zL V r := ne 0 (by decide) (by decide) (by decide)
    have a2 : zB (upV V i v) r = zB V r := ne 1 (by decide) (by decide) (by decide)
    have a4 : zS (upV V i v) r = zS V r := ne 3 (by decide) (by decide) (by decide)
    have a5 : zC (upV V i v) r = zC V r := ne 4 (by decide) (by decide) (by decide)
    unfold pnS
    rw [a1, a2, a4, a5, h0]
    exact ⟨hq.1, hq.2.1, hg r r0 r1, hq.2.2.2.1, hq.2.2.2.2.1, hq.2.2.2.2.2⟩
  · exact upV_ne (by
      rcases hn with hn | ⟨s, s0, s1, e⟩
      · omega
      · have : s = r ∨ s + 1 ≤ r ∨ r + 1 ≤ s := by omega
        omega)
  · exact upV_ne (by
      rcases hn with hn | ⟨s, s0, s1, e⟩
      · omega
      · have : s = r ∨ s + 1 ≤ r ∨ r + 1 ≤ s := by omega
        omega)
theorem WF.grd {V : VV} (h : WF V) (p0 : 0 ≤ p) (p1 : p < 6) (n0 : 0 ≤ n) (n1 : n ≤ 9) : WF (upV V (12 + 29 * p + 2) n) := by
  refine h.one ?_ (upV_ne (by omega)) (fun r r0 r1 => by rw [upV_ne (by omega)]; exact h.2.1 r r0 r1) (fun r r0 r1 => ?_) (Or.inr ⟨p, p0, p1, rfl⟩)
  · unfold hdS
    rw [upV_ne (by omega), upV_ne (by omega), upV_ne (by omega), upV_ne (by omega), upV_ne (by omega), upV_ne (by omega)]
    exact h.1
  · by_cases x : r = p
    · subst x
      unfold zG
      rw [upV_eq]; exact ⟨n0, n1⟩
    · have e : zG (upV V (12 + 29 * p + 2) n) r = zG V r := upV_ne (by omega)
      rw [e]; exact (h.pn r0 r1).2.2.1
theorem WF.nse {V : VV} (h : WF V) (n0 : 0 ≤ n) (n1 : n ≤ 100) : WF (upV V 3 n) := by
  refine h.one ?_ (upV_ne (by decide)) (fun r r0 r1 => by rw [upV_ne (by omega)]; exact h.2.1 r r0 r1) (fun r r0 r1 => ?_) (Or.inl (by decide))
  · have h1 := h.1
    unfold hdS
    rw [upV_ne (by decide), upV_ne (by decide), upV_eq, upV_ne (by decide), upV_ne (by decide), upV_ne (by decide)]
    omega
  · have e : zG (upV V 3 n) r = zG V r := upV_ne (by omega)
    rw [e]; exact (h.pn r0 r1).2.2.1
theorem WF.trn {V : VV} (h : WF V) (k0 : 0 ≤ k) (k1 : k < 4) (n0 : 0 ≤ n) (n1 : n ≤ 2) : WF (upV V (8 + k) n) := by
  refine h.one ?_ (upV_ne (by omega)) (fun r r0 r1 => ?_) (fun r r0 r1 => ?_) (Or.inl (by omega))
  · unfold hdS
    rw [upV_ne (by omega), upV_ne (by omega), upV_ne (by omega), upV_ne (by omega), upV_ne (by omega), upV_ne (by omega)]
    exact h.1
  · by_cases x : r = k
    · rw [x, upV_eq]; exact ⟨n0, n1⟩
    · rw [upV_ne (by omega)]; exact h.2.1 r r0 r1
  · have e : zG (upV V (8 + k) n) r = zG V r := upV_ne (by omega)
    rw [e]; exact (h.pn r0 r1).2.2.1
theorem k_guard (h : CRel g m) (hb : 2 ≤ b) (hp : wr p = p) (hn : wr n = n) (kk : aC [eIO, eIA] m g (s_guard (m 172) p n) (upV (m 172) (12 + 29 * p + 2) n) K) : Ct Γ l (d + 3) b yX11_guard mX11_guard [vR 1, vI p, vI n] (stt g) K := by
  have h6 := h.cs.2.1.1.1
  have l12 : ln 12 = 6 := by decide +kernel
  apply wpX11_guard hb
  refine k_needPerson h.cs (by decide) hp (fun p0 p1 => bV_in ?_) (fun z => bV_th (aC_th kk (by unfold s_guard; rw [if_neg z]) (by decide) rfl h))
  refine k_needNumber (by decide) hn (by decide) (by decide) (by decide) (by decide) (fun n0 n1 => bV_in ?_) (fun z => bV_th (aC_th kk (by unfold s_guard; rw [if_pos ⟨p0, p1⟩, if_neg z]) (by decide) rfl h))
  refine k_remember h fun g1 r => bV_in ?_
  have c1 : CT g1 8 (m 172) := r.cs h.cs
  have e12 : cel g1 12 p = zG (m 172) p := CS.n12 c1 p0 (by omega)
  have o2 : onlyH g1 (upd2 g1 12 p n) 8 := fun a j ha => upd2_ne (by omega)
  rw [e12, puc_in p0 (by rw [l12]; omega)]
  have c2 : CT (upd2 g1 12 p n) 8 (upV (m 172) (12 + 29 * p + 2) n) := c1.up (c1.1.arr (c := 3) (by decide) (by decide) p0 (by omega) c1.2.1.1.2.2.2.2.2.2) (c1.2.1.grd p0 (by omega) n0 n1) (upV_ne (by omega)) (fun j hj => upV_ne (by omega)) o2
  exact actE kk (by unfold s_guard; rw [if_pos ⟨p0, p1⟩, if_pos ⟨n0, n1⟩]) h r c2 (h.1.2.up h.cs.2.1 (by omega) (Or.inr ⟨p, 2, rfl, p0, p1, by decide, by decide, by decide, fun c => absurd c (by decide)⟩)) (upV_ne (by omega)) o2.f
theorem k_noise (h : CRel g m) (hb : 1 ≤ b) (hn : wr n = n) (kk : aC [eIA] m g (s_noise (m 172) n) (upV (m 172) 3 n) K) : Ct Γ l (d + 3) b yX11_noise mX11_noise [vR 1, vI n] (stt g) K := by
  apply wpX11_noise hb
  refine k_needNumber (by decide) hn (by decide) (by decide) (by decide) (by decide) (fun n0 n1 => bV_in ?_) (fun z => bV_th (aC_th kk (by unfold s_noise; rw [if_neg z]) (by decide) rfl h))
  refine k_remember h fun g1 r => bV_in ?_
  have c1 : CT g1 8 (m 172) := r.cs h.cs
  have o2 : onlyH g1 (upd2 g1 8 10 n) 8 := fun a j ha => upd2_ne (by omega)
  rw [c1.1.noi]
  have c2 : CT (upd2 g1 8 10 n) 8 (upV (m 172) 3 n) := c1.up (c1.1.fld (f := 10) (by decide) (by decide) c1.2.1.1.2.2.2.2.2.2) (c1.2.1.nse n0 n1) (upV_ne (by decide)) (fun j hj => upV_ne (by omega)) o2
  exact actE kk (by unfold s_noise; rw [if_pos ⟨n0, n1⟩]) h r c2 (h.1.2.up h.cs.2.1 (by decide) (Or.inl (by decide))) (upV_ne (by decide)) o2.f
theorem k_turn (h : CRel g m) (hb : 2 ≤ b) (hp : wr p = p) (hn : wr n = n) (kk : aC [eIO, eIA] m g (s_turn (m 172) p n) (upV (m 172) (8 + p) n) K) : Ct Γ l (d + 3) b yX11_turn mX11_turn [vR 1, vI p, vI n] (stt g) K := by
  have l15 : ln 15 = 4 := by decide +kernel
  apply wpX11_turn hb
  refine k_needDistance (by decide) hp (fun p0 p1 => bV_in ?_) (fun z => bV_th (aC_th kk (by unfold s_turn; rw [if_neg z]) (by decide) rfl h))
  refine k_needNumber (by decide) hn (by decide) (by decide) (by decide) (by decide) (fun n0 n1 => bV_in ?_) (fun z => bV_th (aC_th kk (by unfold s_turn; rw [if_pos ⟨p0, p1⟩, if_neg z]) (by decide) rfl h))
  refine k_remember h fun g1 r => bV_in ?_
  have c1 : CT g1 8 (m 172) := r.cs h.cs
  have e15 : cel g1 15 p = m 172 (8 + p) := CS.n15 c1 p0 p1
  have o2 : onlyH g1 (upd2 g1 15 p n) 8 := fun a j ha => upd2_ne (by omega)
  rw [e15, puc_in p0 (by rw [l15]; omega)]
  have c2 : CT (upd2 g1 15 p n) 8 (upV (m 172) (8 + p) n) := c1.up (c1.1.mod p0 p1 c1.2.1.1.2.2.2.2.2.2) (c1.2.1.trn p0 p1 n0 n1) (upV_ne (by omega)) (fun j hj => upV_ne (by omega)) o2
  exact actE kk (by unfold s_turn; rw [if_pos ⟨p0, p1⟩, if_pos ⟨n0, n1⟩]) h r c2 (h.1.2.up h.cs.2.1 (by omega) (Or.inl (by omega))) (upV_ne (by omega)) o2.f
theorem k_repeat (h : CRel g m) (hb : 4 ≤ b) (hp : wr p = p) (hq : wr q = q) (kk : aC [eIO, eIA, eIS] m g (s_repeat (m 172) p q) (cpO (m 172) p q) K) : Ct Γ l (d + 3) b yX11_repeat mX11_repeat [vR 1, vI p, vI q] (stt g) K := by
  have h6 := h.cs.2.1.1.1
  apply wpX11_repeat hb
  refine k_needPerson h.cs (by decide) hp (fun p0 p1 => bV_in ?_) (fun z => bV_th (aC_th kk (by unfold s_repeat; rw [if_neg (fun c => z c.1)]) (by decide) rfl h))
  refine k_needPerson h.cs (by decide) hq (fun q0 q1 => bV_in ?_) (fun z => bV_th (aC_th kk (by unfold s_repeat; rw [if_neg (fun c => z c.2)]) (by decide) rfl h))
  refine k_needTwo (by decide) hp hq (fun ne => bV_in ?_) (fun z => bV_th (aC_th kk (by unfold s_repeat; rw [if_pos ⟨⟨p0, p1⟩, q0, q1⟩, if_pos z]) (by decide) rfl h))
  refine k_needState h.cs (by decide) p0 p1 (by decide) (by decide) (fun z => bV_in ?_) (fun z => bV_th (aC_th kk (by unfold s_repeat; rw [if_pos ⟨⟨p0, p1⟩, q0, q1⟩, if_neg ne, if_neg z]) (by decide) rfl h))
  refine k_remember h fun g1 r => bV_in ?_
  have c1 : CT g1 8 (m 172) := r.cs h.cs
  have ok := cpO_ok h.cs.2.1 h.1.2 p0 p1 q0 q1 z
  refine k_copyOath c1.1 c1.2.1 p0 (by omega) q0 (by omega) ne fun g2 h2 o2 => bV_in ?_
  have c2 : CT g2 8 (cpO (m 172) p q) := c1.up h2 ok.1 (cpO_ne (by omega) (by omega)) (fun j hj => cpO_ne (by omega) (by omega)) o2
  have el : cel g2 10 p = zL (m 172) q := (CS.n10 c2 p0 (by omega)).trans ok.2.2
  rw [el]
  exact actE kk (by unfold s_repeat; rw [if_pos ⟨⟨p0, p1⟩, q0, q1⟩, if_neg ne, if_pos z]) h r c2 ok.2.1 (cpO_ne (by omega) (by omega)) o2.f
theorem k_hours (h : CRel g m) (hb : 1 ≤ b) (hn : wr n = n) (kk : aC [eIA] m g (s_hours (m 172) n) (psS (m 172) n.toNat).1 K) : Ct Γ l (d + 7) b yX11_hours mX11_hours [vR 1, vI n] (stt g) K := by
  apply wpX11_hours hb
  refine k_needNumber (by decide) hn (by decide) (by decide) (by decide) (by decide) (fun n0 n1 => bV_in ?_) (fun z => bV_th (aC_th kk (by unfold s_hours; rw [if_neg z]) (by decide) rfl h))
  refine k_remember h fun g1 r => bV_in ?_
  have c1 : CT g1 8 (m 172) := r.cs h.cs
  have ok := ps_ok h.cs.2.1 h.cs.2.2.2 h.1.2 n.toNat
  obtain ⟨i, rfl⟩ : ∃ i : Nat, n = i := ⟨n.toNat, by omega⟩
  rw [Int.toNat_natCast] at ok kk
  refine k_passHours (n := i) (by omega) c1 fun g2 c2 o2 => bI_in ?_
  exact actE kk (by unfold s_hours; rw [if_pos ⟨n0, n1⟩, Int.toNat_natCast]) h r c2 ok.2.2.1 ok.2.2.2.1 o2.f
end KA
