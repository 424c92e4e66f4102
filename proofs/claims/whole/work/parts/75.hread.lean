/-! A TEXT OF THE HILLS: what it comes to; the class's reader -/
abbrev hsN (k : Int) : Prop := k = 3 ∨ k = 4 ∨ k = 6 ∨ k = 7
def opN (k wi : Int) : Int := wi + (if k = 8 then 1 else if k = 9 then -1 else 0)
abbrev isN (S N : Int → Int) (a lo hi : Int) : Prop := S a = 1036 ∧ lo ≤ N a ∧ N a ≤ hi
abbrev RR : Type := Bool × Int × VV
def wvS (V : VV) (p w k n : Int) : VV := upV (upV V (12 + 29 * p + (5 + 2 * w)) k) (12 + 29 * p + (5 + 2 * w + 1)) n
/-- an oath's words, from the word w on -/
def wdR (S N : Int → Int) (p : Int) : Nat → VV → Int → Int → Int → RR
  | 0, V, a, w, wi => (decide (0 < w ∧ wi = 0 ∧ sgK (S a) = -1), a, upV V (12 + 29 * p + 0) w)
  | f + 1, V, a, w, wi => if sgK (S a) = -1 then (decide (0 < w ∧ wi = 0 ∧ sgK (S a) = -1), a, upV V (12 + 29 * p + 0) w)
    else if opN (sgK (S a)) wi < 0 ∨ 3 < opN (sgK (S a)) wi then (false, a, V)
    else if hsN (sgK (S a)) then (if isN S N (a + 1) 0 9 then wdR S N p f (wvS V p w (sgK (S a)) (N (a + 1))) (a + 2) (w + 1) (opN (sgK (S a)) wi) else (false, a + 1, V))
    else wdR S N p f (wvS V p w (sgK (S a)) 0) (a + 1) (w + 1) (opN (sgK (S a)) wi)
def exR (S N : Int → Int) (s lo i : Int) (V : VV) (a : Int) : RR := if S a = s then (if isN S N (a + 1) lo 9 then (true, a + 2, upV V i (N (a + 1))) else (false, a + 1, V)) else (true, a, V)
/-- a person is new: fields, count -/
def nwP (V : VV) (p : Int) : VV := upV (setS (upV (upV V (12 + 29 * p + 1) 1) (12 + 29 * p + 2) 0) p 0 0) 0 (p + 1)
def oaR (S N : Int → Int) (V : VV) (a : Int) : RR := if V 0 < 6 then
    (let r := wdR S N (V 0) 12 V (a + 1) 0 0
     if r.1 = true then
      (let r2 := exR S N 1011 1 (12 + 29 * V 0 + 1) (nwP r.2.2 (V 0)) r.2.1
       if r2.1 = true then exR S N 1012 0 (12 + 29 * V 0 + 2) r2.2.2 r2.2.1 else r2)
     else r)
  else (false, a, V)
def moR (S N : Int → Int) (V : VV) (a : Int) : RR := if isN S N (a + 1) 0 3 then (if isN S N (a + 2) 0 2 then (true, a + 3, upV V (8 + N (a + 1)) (N (a + 2))) else (false, a + 2, V)) else (false, a + 1, V)
def nmR (S N : Int → Int) (V : VV) (a i hi : Int) : RR := if isN S N (a + 1) 0 hi then (true, a + 2, upV V i (N (a + 1))) else (false, a + 1, V)
def lnR (S N : Int → Int) (V : VV) (a : Int) : RR := if S a = 1010 then oaR S N V a else if S a = 1013 then moR S N V a else if S a = 1014 then nmR S N V a 3 100 else if S a = 1015 then nmR S N V a 4 999 else if S a = 1016 then nmR S N V a 5 999 else (false, a, V)
/-- so many lines may stand there yet -/
def txR (S N : Int → Int) : Nat → VV → Int → RR
  | 0, V, a => (false, a, V)
  | f + 1, V, a => let r := lnR S N V a
    if r.1 = true then (if S r.2.1 = 1037 then r else if S r.2.1 = 1030 then txR S N f r.2.2 (r.2.1 + 1) else (false, r.2.1, V)) else r
def hiR (S N : Int → Int) (V : VV) : RR := if S 0 = 1037 then (true, 0, V) else txR S N 14 V 0
/-- what reading the hills changes in the class -/
def oH (g g' : GG) : Prop := ∀ x j, ¬ (x = 4 ∧ 3 ≤ j ∧ j ≤ 6) → ¬ (17 ≤ x ∧ x ≤ 25) → g' x j = g x j
def oT (g g' : GG) : Prop := ∀ x j, ¬ (x = 4 ∧ 3 ≤ j ∧ j ≤ 6) → g' x j = g x j
theorem oT.oH {g g' : GG} (h : oT g g') : oH g g' := fun x j h1 _ => h x j h1
theorem oH.trans {g1 g2 g3 : GG} (h : oH g1 g2) (h' : oH g2 g3) : oH g1 g3 := fun x j h1 h2 => by rw [h' x j h1 h2, h x j h1 h2]
theorem oH.refl {g : GG} : oH g g := fun _ _ _ _ => rfl
theorem oH.at (g : GG) {x j v : Int} (h0 : 17 ≤ x) (h1 : x ≤ 25) : oH g (upd2 g x j v) := fun a i _ h => upd2_ne (by omega)
theorem CQ.oh {g g' : GG} {n : Int} {S P N : Int → Int} (h : CQ g n S P N) (o : oH g g') : CQ g' n S P N := fun k k0 k1 => by
  rw [o _ _ (by omega) (by omega), o _ _ (by omega) (by omega), o _ _ (by omega) (by omega)]
  exact h k k0 k1
theorem CP.h {g : GG} {S P N : Int → Int} {a x j v : Int} (h : CP g S P N a) (hx : x ≠ 4) : CP (upd2 g x j v) S P N a := ⟨by rw [upd2_ne (by omega)]; exact h.1, by rw [upd2_ne (by omega)]; exact h.2.1, by rw [upd2_ne (by omega)]; exact h.2.2.1, by rw [upd2_ne (by omega)]; exact h.2.2.2⟩
theorem HRel.ot {g g' : GG} {V : VV} (h : HRel g 17 V) (o : oT g g') : HRel g' 17 V := h.fr fun a j a0 a1 => o a j (by omega)
theorem sgK_rng {s : Int} (h : SG s) : -1 ≤ sgK s ∧ sgK s ≤ 9 ∧ (sgK s ≠ -1 → s = 1000 + sgK s) ∧ (1010 ≤ s → sgK s = -1) := by
  have := h.1
  unfold sgK sgKind
  by_cases c : (s - 1000).toNat < 10
  · rw [if_pos c]; omega
  · rw [if_neg c]; omega
theorem k_done {r : RR} {g : GG} {K : Ou → HP → Prop} {x : Bool} (h : K (.inl (vI (if r.1 = true then 1 else 0))) (stt g)) (e : r.1 = x) : K (.inl (vI (if x = true then 1 else 0))) (stt g) := e ▸ h
section HR
variable {Γ : Cfg} {l : Launch} {d b : Nat} {g : GG} {K : Ou → HP → Prop} {T S P N : Int → Int} {L n p e x y a lo hi : Int} {V : VV}
/-- where a reading of the class ends -/
def KH (g : GG) (n : Int) (S P N : Int → Int) (r : RR) (K : Ou → HP → Prop) : Prop := ∀ g', oH g g' → CP g' S P N r.2.1 → 0 ≤ r.2.1 → r.2.1 ≤ n → (r.1 = true → HRel g' 17 r.2.2) → K (.inl (vI (if r.1 = true then 1 else 0))) (stt g')
theorem KH.up {g g' : GG} {r : RR} (h : KH g n S P N r K) (o : oH g g') : KH g' n S P N r K := fun g2 o2 => h g2 (o.trans o2)
theorem k_st (hS : TS T L n S P N) (hq : CQ g n S P N) (hp : CP g S P N a) (a0 : 0 ≤ a) (a1 : a < n) (kk : ∀ g', CP g' S P N (a + 1) → CQ g' n S P N → oT g g' → K (.inl vU) (stt g')) : Ct Γ l (d + 1) b yX10_step mX10_step [vR 4] (stt g) K :=
  k_step hq (fun k k0 k1 => hS.sg k0 k1) hp.1 (by omega) (by omega) (by have := hS.1.1; omega) kk
theorem TS.lt (hS : TS T L n S P N) (a1 : a ≤ n) (h : S a ≠ 1037) : a < n := by
  by_cases c : a = n
  · exact absurd (c ▸ hS.1.2.1) h
  · omega
theorem k_words (hS : TS T L n S P N) (p0 : 0 ≤ p) (p1 : p < 6) : ∀ (f : Nat) (V : VV) (g : GG) (a w wi : Int) (y5 y6 : AV), (f : Int) + w = 12 → 0 ≤ w → HRel g 17 V → V 6 ≤ 60 → CQ g n S P N → CP g S P N a → 0 ≤ a → a ≤ n → 0 ≤ wi → wi ≤ 3 → KH g n S P N (wdR S N p f V a w wi) K → AW Γ l mX3_readWords (d + 2) b 5 [vR 4, vR 17, vI p, vI w, vI wi, y5, y6] [] (stt g) K := by
  have w1 : wr (-1) = -1 := by decide +kernel
  have fin : ∀ (V : VV) (g : GG) (a w wi : Int), 0 ≤ w → w ≤ 12 → HRel g 17 V → V 6 ≤ 60 → CP g S P N a → 0 ≤ a → a ≤ n → 0 ≤ wi → wi ≤ 3 → KH g n S P N (decide (0 < w ∧ wi = 0 ∧ sgK (S a) = -1), a, upV V (12 + 29 * p + 0) w) K →
      (wr w ≤ 0 → K (.inl (vI 0)) (stt (puc g (17 + 1 + 1) p w))) ∧ (¬ (wr w ≤ 0) → (¬ wr wi = 0 → K (.inl (vI 0)) (stt (puc g (17 + 1 + 1) p w))) ∧ (¬ (¬ wr wi = 0) → (SG ((puc g (17 + 1 + 1) p w) 4 4)) ∧ ((¬ wr (sgK ((puc g (17 + 1 + 1) p w) 4 4)) = -1 → K (.inl (vI 0)) (stt (puc g (17 + 1 + 1) p w))) ∧ (¬ (¬ wr (sgK ((puc g (17 + 1 + 1) p w) 4 4)) = -1) → K (.inl (vI 1)) (stt (puc g (17 + 1 + 1) p w)))))) := by
    intro V g a w wi w0 w12 h hl hp a0 a1 i0 i1 kk
    have sg := hS.sg a0 a1
    have sk := sgK_rng sg
    rw [puc_in p0 (by rw [h.hi.l1]; exact p1), upd2_ne (show (4 : Int) ≠ 17 + 1 + 1 by decide), hp.2.1, wr_id (x := w) (by omega) (by omega), wr_id (x := wi) (by omega) (by omega), wr_id (x := sgK (S a)) (by omega) (by omega)]
    have h2 := h.arr (c := 1) (v := w) (by decide) (by decide) p0 p1 hl
    have kk := kk _ (oH.at g (x := 17 + 1 + 1) (j := p) (v := w) (by decide) (by decide)) (hp.h (by decide)) a0 a1 (fun _ => h2)
    by_cases c : 0 < w ∧ wi = 0 ∧ sgK (S a) = -1
    · rw [decide_eq_true c] at kk
      exact ⟨fun z => absurd z (by omega), fun _ => ⟨fun z => absurd c.2.1 z, fun _ => ⟨sg, fun z => absurd c.2.2 z, fun _ => kk⟩⟩⟩
    · rw [decide_eq_false c] at kk
      exact ⟨fun _ => kk, fun z1 => ⟨fun _ => kk, fun z2 => ⟨sg, fun _ => kk, fun z3 => absurd ⟨by omega, Decidable.not_not.mp z2, Decidable.not_not.mp z3⟩ c⟩⟩⟩
  intro f
  induction f with
  | zero =>
    intro V g a w wi y5 y6 hw w0 h hl hq hp a0 a1 i0 i1 kk
    refine AW.weak (L' := [vR 4, vR 17, vI p, vI w, vI wi, vU, vU]) ?_ (by simp [leP])
    apply wpX3_readWords_5 hi17
    refine ⟨fun _ => fin V g a w wi (by omega) (by omega) h hl hp a0 a1 i0 i1 kk, fun c => absurd c ?_⟩
    rw [wr_id (x := w) (by omega) (by omega)]
    omega
  | succ f ih =>
    intro V g a w wi y5 y6 hw w0 h hl hq hp a0 a1 i0 i1 kk
    have sg := hS.sg a0 a1
    have sk := sgK_rng sg
    refine AW.weak (L' := [vR 4, vR 17, vI p, vI w, vI wi, vU, vU]) ?_ (by simp [leP])
    apply wpX3_readWords_5 hi17
    refine ⟨fun c => absurd c (by rw [wr_id (x := w) (by omega) (by omega)]; omega), fun _ => ?_⟩
    unfold wdR at kk
    by_cases c : sgK (S a) = -1
    · rw [if_pos c] at kk
      refine ⟨by rw [hp.2.1]; exact sg, fun _ => fin V g a w wi (by omega) (by omega) h hl hp a0 a1 i0 i1 kk, fun z => absurd ?_ z⟩
      rw [hp.2.1, c]
      exact w1
    rw [if_neg c] at kk
    rw [hp.2.1, wr_id (x := sgK (S a)) (by omega) (by omega), wr_id (x := wi) (by omega) (by omega)]
    refine ⟨sg, fun z => absurd z c, fun _ => ⟨sg, ?_⟩⟩
    have an : a < n := hS.lt a1 (fun z => c (sk.2.2.2 (by omega)))
    have bad : (opN (sgK (S a)) wi < 0 ∨ 3 < opN (sgK (S a)) wi) → AW Γ l mX3_readWords (d + 2) b 56 [vR 4, vR 17, vI p, vI w, vI wi, vI (sgK (S a)), vU] [] (stt g) K := fun z => by
      rw [if_pos z] at kk
      apply wpX3_readWords_56 hi17
      exact kk g oH.refl hp a0 a1 (fun z => absurd z Bool.false_ne_true)
    have last : ∀ (g' : GG) (m n9 : Int), oH g g' → HRel g' 17 V → CQ g' n S P N → CP g' S P N m → a < m → m ≤ n → ¬ (opN (sgK (S a)) wi < 0 ∨ 3 < opN (sgK (S a)) wi) → KH g n S P N (wdR S N p f (wvS V p w (sgK (S a)) n9) m (w + 1) (opN (sgK (S a)) wi)) K → AW Γ l mX3_readWords (d + 2) b 141 [vR 4, vR 17, vI p, vI w, vI (opN (sgK (S a)) wi), vI (sgK (S a)), vI n9] [] (stt g') K := by
      intro g' m n9 o h' hq' hp' m0 m1 hno k2
      apply wpX3_readWords_141 hi17
      intro g1 e1
      rw [puc_in (by omega) (by rw [h.hi.l0]; omega), show sgK (S a) * 10 + n9 = 10 * sgK (S a) + n9 by omega] at e1
      have h2 := h'.wrd (a := sgK (S a)) (n := n9) p0 p1 (show 0 ≤ w by omega) (by omega) hl
      rw [e1]
      refine ih _ _ m (w + 1) _ _ _ (by omega) (by omega) h2 ?_ (hq'.oh (oH.at g' (by decide) (by decide))) (hp'.h (by decide)) (by omega) m1 (by omega) (by omega) (k2.up (o.trans (oH.at g' (by decide) (by decide))))
      rw [upV_ne (by omega), upV_ne (by omega)]
      exact hl
    have go : ¬ (opN (sgK (S a)) wi < 0 ∨ 3 < opN (sgK (S a)) wi) → ∀ s0 : Int, wi + s0 = opN (sgK (S a)) wi → AW Γ l mX3_readWords (d + 2) b 83 [vR 4, vR 17, vI p, vI w, vI wi, vI (sgK (S a)), vU] [vI s0, vI wi] (stt g) K := fun hno s0 e => by
      rw [if_neg hno] at kk
      apply wpX3_readWords_83 hi17
      refine k_st hS hq hp a0 an fun g1 p1' q1 o1 => bV_in ?_
      rw [e, wr_id (x := sgK (S a)) (by omega) (by omega)]
      have h1 := h.ot o1
      have num : hsN (sgK (S a)) → AW Γ l mX3_readWords (d + 2) b 119 [vR 4, vR 17, vI p, vI w, vI (opN (sgK (S a)) wi), vI (sgK (S a)), vI 0] [] (stt g1) K := fun hn => by
        rw [if_pos hn] at kk
        apply wpX3_readWords_119 hi17
        refine k_tells p1' (hS.sg (by omega) (by omega)) (hS.n9 (by omega) (by omega)) (by decide) (by decide) (by decide) (fun z => bI_in ?_) (fun z => bI_in ?_)
        · rw [show wr 1 = 1 by decide +kernel, p1'.2.2.2]
          refine ⟨fun _ => ?_, fun c => absurd (show (1 : Int) ≠ 0 by decide) c⟩
          rw [if_pos (show isN S N (a + 1) 0 9 from z)] at kk
          have an1 : a + 1 < n := hS.lt (by omega) (by omega)
          refine k_st hS q1 p1' (by omega) an1 fun g2 p2 q2 o2 => bV_in ?_
          rw [show a + 1 + 1 = a + 2 by omega] at p2
          exact last g2 (a + 2) _ (o1.oH.trans o2.oH) (h1.ot o2) q2 p2 (by omega) (by omega) hno kk
        · rw [show wr 0 = 0 by decide +kernel]
          refine ⟨fun c => absurd rfl c, fun _ => ?_⟩
          rw [if_neg (show ¬ isN S N (a + 1) 0 9 from z)] at kk
          exact kk g1 o1.oH p1' (by show 0 ≤ a + 1; omega) (by show a + 1 ≤ n; omega) (fun z => absurd z Bool.false_ne_true)
      unfold hsN at num
      refine ⟨fun z => num (by omega), fun z3 => ⟨fun z => num (by omega), fun z4 => ⟨fun z => num (by omega), fun z6 => ⟨fun z7 => ?_, fun z => num (by omega)⟩⟩⟩⟩
      rw [if_neg (show ¬ hsN (sgK (S a)) by unfold hsN; omega)] at kk
      exact last g1 (a + 1) 0 o1.oH h1 q1 p1' (by omega) (by omega) hno kk
    have at58 : ¬ (opN (sgK (S a)) wi < 0 ∨ 3 < opN (sgK (S a)) wi) → AW Γ l mX3_readWords (d + 2) b 58 [vR 4, vR 17, vI p, vI w, vI wi, vI (sgK (S a)), vU] [] (stt g) K := fun hno => by
      apply wpX3_readWords_58 hi17
      rw [wr_id (x := sgK (S a)) (by omega) (by omega)]
      refine ⟨fun z8 => ⟨fun z9 => go hno 0 ?_, fun z9 => go hno (-1) ?_⟩, fun z8 => go hno 1 ?_⟩
      · unfold opN; rw [if_neg z8, if_neg z9]
      · unfold opN; rw [if_neg z8, if_pos (by omega)]
      · unfold opN; rw [if_pos (by omega)]
    have at43 : (sgK (S a) = 9 → wi ≠ 0) → AW Γ l mX3_readWords (d + 2) b 43 [vR 4, vR 17, vI p, vI w, vI wi, vI (sgK (S a)), vU] [] (stt g) K := fun h9 => by
      apply wpX3_readWords_43 hi17
      rw [wr_id (x := sgK (S a)) (by omega) (by omega), wr_id (x := wi) (by omega) (by omega)]
      refine ⟨fun z8 => at58 ?_, fun z8 => ⟨fun z => at58 ?_, fun z => bad ?_⟩⟩
      · unfold opN; omega
      · unfold opN; omega
      · unfold opN; omega
    refine ⟨fun z => at43 (fun q => absurd q z), fun z => ⟨fun z0 => bad ?_, fun z0 => at43 (fun _ => z0)⟩⟩
    unfold opN; omega
end HR
