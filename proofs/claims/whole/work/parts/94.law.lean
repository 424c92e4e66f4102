/-! A TEXT OF THE LAW: the class's call -/
section NL9
variable {V W V' : VV} {k : Int}
theorem NL.fl (h : NL V W k V') {n : Nat} (hn : (n : Int) < k) : okL W n ∧ (lwW V' n = lwW W n ∧ lwN V' n = lwN W n ∧ lwF V' n = lwF W n ∧ lwT V' n = lwT W n) ∧ ∀ i, lwF W n ≤ i → i < lwT W n → lwC V' i = lwC W i ∧ lwA V' i = lwA W i := by
  obtain ⟨-, -, -, c, lv, e⟩ := h
  have hl := lv.2 n hn
  have hk := lv.1
  have hb := hl.1.2.2.1
  exact ⟨hl.1, ⟨e _ (by omega), e _ (by omega), e _ (by omega), e _ (by omega)⟩, fun i i0 i1 => ⟨e _ (by omega), e _ (by omega)⟩⟩
theorem NL.ok (h : NL V W k V') : okLaw V' := by
  obtain ⟨h2, h6, -, c, lv, -⟩ := id h
  have hk := lv.1
  refine ⟨by omega, by omega, fun z => by omega, fun n n0 n1 => ?_⟩
  obtain ⟨i, rfl⟩ : ∃ i : Nat, n = i := ⟨n.toNat, by omega⟩
  have f := h.fl (n := i) (by omega)
  exact okL_cgx f.1 f.2.1 f.2.2
theorem NL.ps (h : NL V W k V') {m : Nat} (hm : (m : Int) ≤ k) : psL V' m = psL W m := psL_cg2 fun i hi => by
  have f := (h.fl (n := i) (by omega)).2.1
  exact ⟨f.2.2.1, f.2.2.2⟩
theorem NL.ln (h : NL V W k V') {g : GG} {t : Int} {n : Nat} (hn : (n : Int) < k) : LN1 g t V' n ↔ LN1 g t W n := by
  have f := h.fl hn
  obtain ⟨l1, l2, l3, l4⟩ := f.2.1
  have hc : ∀ j : Nat, (j : Int) < lwT W n - lwF W n → lwC V' (lwF W n + j) = lwC W (lwF W n + j) ∧ lwA V' (lwF W n + j) = lwA W (lwF W n + j) := fun j hj => f.2.2 _ (by omega) (by omega)
  unfold LN1
  rw [h.ps (m := n) (by omega), h.ps (m := n + 1) (by omega), l1, l2, l3, l4]
  constructor
  · intro z
    exact ⟨z.1, z.2.1, fun j hj => by rw [← (hc j hj).1, ← (hc j hj).2]; exact z.2.2 j hj⟩
  · intro z
    exact ⟨z.1, z.2.1, fun j hj => by rw [(hc j hj).1, (hc j hj).2]; exact z.2.2 j hj⟩
theorem NL.rel (h : NL V W k V') {g : GG} {t : Int} (ht : LA t) (h3 : g t 3 = k) (h4 : g t 4 = 1) (h2 : g t 2 = psL W k.toNat) (hp : psL W k.toNat ≤ 400) (hl : ∀ n : Nat, (n : Int) < k → LN1 g t W n) : LRel g t V' := by
  obtain ⟨q2, q6, -, c, lv, -⟩ := id h
  have hk := lv.1
  have ep := h.ps (m := k.toNat) (by omega)
  refine ⟨ht, ⟨by rw [q6]; exact h3, by rw [q2]; exact h4, by rw [q6, ep]; exact h2, by rw [q6, ep]; exact hp⟩, fun n hn => ?_⟩
  rw [q6] at hn
  exact (h.ln hn).mpr (hl n hn)
theorem NL.swap {V1 V2 : VV} (h1 : NL V W k V1) (h2 : NL V W k V2) {g : GG} {t : Int} (h : LRel g t V1) : LRel g t V2 := by
  obtain ⟨ht, ⟨a1, a2, a3, a4⟩, a5⟩ := h
  obtain ⟨q2, q6, -, c, lv, -⟩ := id h1
  have hk := lv.1
  rw [q6, h1.ps (m := k.toNat) (by omega)] at a3 a4
  refine h2.rel ht (by rw [a1, q6]) (by rw [a2, q2]) a3 a4 fun n hn => (h1.ln hn).mp (a5 n (by rw [q6]; exact hn))
theorem HRel.two {g : GG} {t x : Int} (h : HRel g t V) (hl : 0 ≤ V 6 ∧ V 6 ≤ 60) : HRel g t (upV V 2 x) := by
  obtain ⟨h0, ⟨a1, a2, a3, a4, a5, a6, a7⟩, h2, h3, h4, h5⟩ := h
  refine ⟨h0, ⟨?_, ?_, ?_, ?_, ?_, ?_, ?_⟩, fun d d0 d1 => ?_, fun c p c0 c1 p0 p1 => ?_, fun p k p0 p1 k0 k1 => ?_, ?_⟩
  · rw [upV_ne (by omega), a1]
  · rw [upV_ne (by omega), a2]
  · rw [upV_ne (by omega), a3]
  · rw [upV_ne (by omega), a4]
  · rw [upV_ne (by omega), a5]
  · rw [upV_ne (by omega), a6]
  · rw [upV_ne (by omega), a7]
  · rw [upV_ne (by omega), h2 d d0 d1]
  · rw [upV_ne (by omega), h3 c p c0 c1 p0 p1]
  · unfold zK zN at h4 ⊢
    rw [upV_ne (by omega), upV_ne (by omega), h4 p k p0 p1 k0 k1]
  · rw [upV_ne (by omega)]
    intro i w i0 i1 w0 w1
    rw [upV_ne (by omega), h5 i w i0 i1 w0 w1]
end NL9
section LW9
variable {Γ : Cfg} {l : Launch} {d b : Nat} {g m : GG} {K : Ou → HP → Prop} {T S P N : Int → Int} {L n p e x y a : Int}
theorem k_law {F : Nat} (hF : 2410 ≤ F) (h : CRel g m) (hb : 1 ≤ b)
    (kf : ∀ g' n S P N, TS (g 3) (m 171 9) n S P N → ¬ (laR S N F).1 = true → uC g g' → (∀ m', mEq m m' (fun a j => a = 172 ∨ (a = 171 ∧ (j = 9 ∨ j = 14))) → (∀ j, j < 1335 → m' 172 j = m 172 j) → m' 171 9 = 0 → m' 171 14 = P (laR S N F).2.1 → CRel g' m') → K (.inr eIA) (stt g'))
    (kk : ∀ g' n S P N, TS (g 3) (m 171 9) n S P N → (laR S N F).1 = true → uC g g' → (∀ m', NL (m 172) (laR S N F).2.2.1 (laR S N F).2.2.2 (m' 172) → mEq m m' (fun a j => a = 172 ∨ (a = 171 ∧ (j = 7 ∨ j = 9 ∨ j = 14))) → m' 171 7 = 0 → m' 171 9 = 0 → m' 171 14 = -1 → CRel g' m') → K (.inl (vI (laR S N F).2.2.2)) (stt g')) : Ct Γ l (d + 26) b yX11_law mX11_law [vR 1] (stt g) K := by
  have w0 : wr 0 = 0 := by decide +kernel
  have w1 : wr 1 = 1 := by decide +kernel
  obtain ⟨⟨hcs, hz⟩, ⟨⟨e15, _, _⟩, _, _⟩, _, _, e17⟩ := id h
  have hV := hcs.2.1
  apply wpX11_law hb
  refine k_scanTape (d := d + 18) h fun g1 n S P N ts cq cp f2 f17 o1 => bV_in ?_
  refine k_lawText ts hF cq cp fun g2 o2 u4 p2 hr => bI_in ?_
  have kf := fun g' => kf g' n S P N ts
  have kk := fun g' => kk g' n S P N ts
  generalize laR S N F = r at kf kk p2 hr ⊢
  have oo : ∀ x j, ¬ (x = 2 ∧ j = 1) → ¬ (x = 1 ∧ j = 17) → ¬ (4 ≤ x ∧ x ≤ 7) → x ≠ 38 → x ≠ 39 → g2 x j = g x j := fun x j h1 h2 h3 h4 h5 => by rw [o2 x j (by omega) (by omega) h5, o1 x j h1 h2 h3]
  have f22 : g2 2 1 = 0 := by rw [o2 _ _ (by omega) (by omega) (by decide)]; exact f2
  have f27 : g2 1 17 = -1 := by rw [o2 _ _ (by omega) (by omega) (by decide)]; exact f17
  by_cases z : r.1 = true
  · rw [if_pos z, w1]
    refine ⟨fun _ => ?_, fun q => absurd (show (1 : Int) ≠ 0 by decide) q⟩
    obtain ⟨c, lv, ⟨l3, l2, B0, B1, _⟩, hl⟩ := hr z
    have hk := lv.1
    have nx : NL (m 172) r.2.2.1 r.2.2.2 (fun j => if j = 2 then 1 else if j = 486 then r.2.2.2 else if j < 486 then m 172 j else r.2.2.1 j) := by
      refine ⟨if_pos rfl, ?_, fun j j0 j1 j2 => ?_, c, lv, fun j hj => ?_⟩
      · show (if (486 : Int) = 2 then (1 : Int) else if (486 : Int) = 486 then r.2.2.2 else _) = _
        rw [if_neg (by decide), if_pos rfl]
      · show (if j = 2 then (1 : Int) else if j = 486 then r.2.2.2 else if j < 486 then m 172 j else r.2.2.1 j) = _
        rw [if_neg j2, if_neg (by omega), if_pos j1]
      · show (if j = 2 then (1 : Int) else if j = 486 then r.2.2.2 else if j < 486 then m 172 j else r.2.2.1 j) = _
        rw [if_neg (by omega), if_neg (by omega), if_neg (by omega)]
    generalize (fun j => if j = 2 then (1 : Int) else if j = 486 then r.2.2.2 else if j < 486 then m 172 j else r.2.2.1 j) = V1 at nx
    have lr := nx.rel LA38 l3 u4 l2 B1 (fun n hn => (hl n hn).1)
    refine k_lawCopy LA35 lr nx.ok (by decide) (by decide) fun g3 lr3 o3 => bV_in ?_
    have e33 : (upd2 g3 1 15 0) 35 3 = r.2.2.2 := by rw [upd2_ne (by decide), lr3.2.1.1]; exact nx.2.1
    rw [e33]
    have q : ∀ a j, ¬ (a = 1 ∧ j = 15) → ¬ (a = 35 ∧ 2 ≤ j ∧ j < 5) → a ≠ 36 → upd2 g3 1 15 0 a j = g2 a j := fun a j h1 h2 h3 => by
      rw [show upd2 g3 1 15 0 a j = g3 a j from if_neg (fun z => h1 ⟨z.2, z.1⟩), o3 a j (by omega) h2]
    have q15 : upd2 g3 1 15 0 1 15 = 0 := upd2_eq
    have lr4 : LRel (upd2 g3 1 15 0) 35 V1 := lr3.frt (fun j hj => upd2_ne (by decide)) (fun j => upd2_ne (by decide))
    generalize upd2 g3 1 15 0 = g4 at q q15 lr4 ⊢
    have qq : ∀ a j, ¬ (a = 2 ∧ j = 1) → ¬ (a = 1 ∧ (j = 15 ∨ j = 17)) → ¬ (4 ≤ a ∧ a ≤ 7) → ¬ (35 ≤ a ∧ a ≤ 39) → g4 a j = g a j := fun a j h1 h2 h3 h4 => by rw [q a j (by omega) (by omega) (by omega), oo a j h1 (by omega) h3 (by omega) (by omega)]
    refine kk g4 z (fun a j ha => qq a j (by omega) (by omega) (by omega) (by omega)) fun m' hm he h7 h9 h14 => ?_
    refine h.txt (fun a j hx h1 h2 h3 h4 h5 => qq a j h1 h2 (by unfold cX at hx; omega) (by unfold cX at hx; omega)) he ?_ (by rw [q15, h7]) (Or.inl h7) ⟨by rw [q _ _ (by omega) (by omega) (by omega)]; exact f22, h9⟩ (by rw [q _ _ (by omega) (by omega) (by omega), f27, h14])
    have hV2 : WF (upV (m 172) 2 1) := by
      refine hV.hd (by decide) (by decide) ?_ (upV_ne (by decide))
      obtain ⟨q1, q2, q3, q4, q5, q6⟩ := hV.1
      unfold hdS
      rw [upV_ne (by decide), upV_ne (by decide), upV_ne (by decide), upV_ne (by decide), upV_ne (by decide), upV_ne (by decide)]
      exact ⟨q1, q2, q3, q4, q5, q6⟩
    have hz2 : ZQ (upV (m 172) 2 1) := hz.up hV (by decide) (Or.inl (by decide))
    have ee : ∀ j, 0 ≤ j → j < 486 → m' 172 j = upV (m 172) 2 1 j := fun j j0 j1 => by
      by_cases w : j = 2
      · rw [w, upV_eq]; exact hm.1
      · rw [upV_ne w]; exact hm.2.2.1 j j0 j1 w
    have h8 : HRel g4 8 (m 172) := hcs.1.fr fun a j a0 a1 => qq a j (by omega) (by omega) (by omega) (by omega)
    exact ⟨⟨(h8.two hV.1.2.2.2.2.2).cg hV2 ee, hV2.cg9 ee, nx.swap hm lr4, hm.ok⟩, hz2.cg hV2 ee⟩
  · rw [if_neg z, w0]
    refine ⟨fun q => absurd rfl q, fun _ => kf _ z (fun a j ha => by rw [upd2_ne (by omega), oo a j (by omega) (by omega) (by omega) (by omega) (by omega)]) fun m' he hs h9 h14 => ?_⟩
    have q : ∀ a j, ¬ (a = 2 ∧ j = 1) → ¬ (a = 1 ∧ j = 17) → ¬ (4 ≤ a ∧ a ≤ 7) → a ≠ 38 → a ≠ 39 → upd2 g2 1 17 (g2 4 5) a j = g a j := fun a j h1 h2 h3 h4 h5 => by
      rw [show upd2 g2 1 17 (g2 4 5) a j = g2 a j from if_neg (fun z => h2 ⟨z.2, z.1⟩), oo a j h1 h2 h3 h4 h5]
    have f7 : m' 171 7 = m 171 7 := he _ _ (by unfold mX; omega) (by show ¬ ((171 : Int) = 172 ∨ ((171 : Int) = 171 ∧ ((7 : Int) = 9 ∨ (7 : Int) = 14))); decide)
    have ee : ∀ j, 0 ≤ j → j < 486 → m' 172 j = m 172 j := fun j _ j1 => hs j (by omega)
    have es : sameL (m 172) (m' 172) := fun j _ j1 => hs j j1
    have e2 : m' 172 2 = m 172 2 := hs 2 (by decide)
    refine h.txt (fun a j hx h1 h2 h3 h4 h5 => q a j h1 (by omega) (by unfold cX at hx; omega) (by unfold cX at hx; omega) (by unfold cX at hx; omega)) (fun a j hx hn => he a j hx fun w => hn (by omega)) ?_ ?_ (Or.inr ⟨f7, e2⟩) ⟨?_, h9⟩ ?_
    · have h8 : HRel (upd2 g2 1 17 (g2 4 5)) 8 (m 172) := hcs.1.fr fun a j a0 a1 => q a j (by omega) (by omega) (by omega) (by omega) (by omega)
      have lr : LRel (upd2 g2 1 17 (g2 4 5)) 35 (m 172) := hcs.2.2.1.fr (fun j hj => q _ _ (by omega) (by omega) (by omega) (by omega) (by omega)) (fun j => q _ _ (by omega) (by omega) (by omega) (by omega) (by omega))
      exact ⟨⟨h8.cg hV ee, hV.cg9 ee, lr.cg9 hcs.2.2.2 e2 es, hcs.2.2.2.cg9 e2 es⟩, hz.cg hV ee⟩
    · rw [q _ _ (by omega) (by omega) (by omega) (by omega) (by omega), f7]; exact e15
    · rw [upd2_ne (by decide)]; exact f22
    · rw [upd2_eq, h14]; exact p2.2.2.1
end LW9
