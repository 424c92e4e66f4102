/-! THE LAW'S BODY: what its walk stands on -/
abbrev mL_law_ : MT := (RL, code, 7, some .boolean, "law", [])
/-- what the script holds -/
def SC (Γ : Cfg) (x : Int) : Int := (Γ.2.2.2.2.2 x.toNat).toInt
theorem wr_SC {Γ : Cfg} (x : Int) : wr (SC Γ x) = SC Γ x := by
  unfold SC wr
  rw [Int32.ofInt_toInt]
theorem lCmp_self (x : Int) : lCmp x x = 0 := by
  unfold lCmp lg_cmp
  simp
def PA (nms : List String) (R : GG → (Ou → HP → Prop) → Prop) (c v : Int) (g1 : GG) : Prop :=
  (0 ≤ c ∧ c ≤ nms.length) ∧ ∀ (g2 : GG) (B : Int → GG → Prop), lo9 g1 g2 → (∀ b g3, Rel9 g3 → g3 171 0 = c → (c = 0 → b = v) → (∀ j, g3 190 j = g2 190 j) → B b g3) → R g2 (RK B)
def PA0 (R : GG → (Ou → HP → Prop) → Prop) (v : Int) (g1 : GG) : Prop :=
  ∀ (g2 : GG) (B : Int → GG → Prop), lo9 g1 g2 → (∀ g3, Rel9 g3 → (∀ j, g3 190 j = g2 190 j) → B v g3) → R g2 (RK B)
def PAV (R : GG → (Ou → HP → Prop) → Prop) (g1 : GG) : Prop :=
  ∀ (g2 : GG) (B : GG → Prop), lo9 g1 g2 → (∀ g3, Rel9 g3 → (∀ j, g3 190 j = g2 190 j) → B g3) → R g2 (VK B)
theorem Pr.pa {nms : List String} {C : (Ou → HP → Prop) → Prop} {R : GG → (Ou → HP → Prop) → Prop} (h : Pr nms C R) : C (CK nms (PA nms R)) := h _ fun c v g1 c0 c1 hR => ⟨⟨c0, c1⟩, hR⟩
theorem Pr0.pa {C : (Ou → HP → Prop) → Prop} {R : GG → (Ou → HP → Prop) → Prop} (h : Pr0 C R) : C (CK0 (PA0 R)) := h _ fun v g1 hR => hR
theorem PrV.pa {C : (Ou → HP → Prop) → Prop} {R : GG → (Ou → HP → Prop) → Prop} (h : PrV C R) : C (VK (PAV R)) := h _ fun g1 hR => hR
theorem lo9_out {g : GG} {x : Int} : lo9 g (upd2 g 190 0 x) := fun a j ha => if_neg (fun e => by omega)
section AML
variable {Γ : Cfg} {l : Launch} {M : MT} {d b pc : Nat} {L S : List AV} {h : HP} {K : Ou → HP → Prop}
theorem conc_scr : conc Γ (vR 4000) = .ref (Γ.2.1 4000) := rfl
theorem aw_sld {x x' : Int} (dg : decode M.2.1 pc = .ok (.iaload, 1)) (hx' : wr x = x') (h0 : 0 ≤ x' ∧ x' < (Γ.2.2.2.2.1 : Int)) (k : AW Γ l M d b (pc + 1) L (vI (SC Γ x') :: S) h K) : AW Γ l M d b pc L (vI x :: vR 4000 :: S) h K := by
  subst hx'
  intro p e R s m args below meth c H locs cells slots mc ms ls C0 hls hx
  have k1 := k p e R s m args below meth c H locs cells slots mc ms ls C0 hls hx
  obtain ⟨hx0, hb, hml, hown, hts, hlk, hret, hst, hS, hv, hrest⟩ := C0
  have hV := hS.2.2.2.2.2.1
  have hcl := clamp_wr h0.1
  show W p l e R s m args below meth c H locs cells slots _ (F0 m pc ls (.int (Int32.ofInt x) :: .ref (Γ.2.1 4000) :: S.map (conc Γ)))
  refine va_sld hx0 hb hV.1 hV.2.1 (Nat.not_le.mpr hV.2.2) hv (vp_in_wr h0.1 h0.2) dg ?_
  have e : conc Γ (vI (SC Γ (wr x))) = .int (Γ.2.2.2.2.2 (Int32.ofInt x).toNatClampNeg) := by
    show Value.int (Int32.ofInt (Γ.2.2.2.2.2 (wr x).toNat).toInt) = _
    rw [Int32.ofInt_toInt, show (wr x).toNat = (Int32.ofInt x).toNatClampNeg by omega]
  rw [List.map_cons, e] at k1
  exact k1
theorem aw_slen9 (dg : decode M.2.1 pc = .ok (.arraylength, 1)) (k : AW Γ l M d b (pc + 1) L (vI (Γ.2.2.2.2.1 : Int) :: S) h K) : AW Γ l M d b pc L (vR 4000 :: S) h K := by
  intro p e R s m args below meth c H locs cells slots mc ms ls C0 hls hx
  have k1 := k p e R s m args below meth c H locs cells slots mc ms ls C0 hls hx
  obtain ⟨hx0, hb, hml, hown, hts, hlk, hret, hst, hS, hv, hrest⟩ := C0
  have hV := hS.2.2.2.2.2.1
  show W p l e R s m args below meth c H locs cells slots _ (F0 m pc ls (.ref (Γ.2.1 4000) :: S.map (conc Γ)))
  refine va_slen hx0 hb hV.1 hV.2.1 (Nat.not_le.mpr hV.2.2) hv dg ?_
  have e : conc Γ (vI (Γ.2.2.2.2.1 : Int)) = .int (Int32.ofNat Γ.2.2.2.2.1) := by
    show Value.int (Int32.ofInt (Γ.2.2.2.2.1 : Int)) = _
    rw [Int32.ofInt_eq_ofNat]
  rw [List.map_cons, e] at k1
  exact k1
end AML
theorem drop7 {i c b : Int} : ∀ (j : Nat) (v : AV), ([vR 4000, vR 1, vR 171, vR 190, vI i, vU, vU] : List AV)[j]? = some v → v = vU ∨ ([vR 4000, vR 1, vR 171, vR 190, vI i, vI c, vI b] : List AV)[j]? = some v
  | 0, v, h => Or.inr h
  | 1, v, h => Or.inr h
  | 2, v, h => Or.inr h
  | 3, v, h => Or.inr h
  | 4, v, h => Or.inr h
  | 5, v, h => Or.inl (by have h : some vU = some v := h; cases h; rfl)
  | 6, v, h => Or.inl (by have h : some vU = some v := h; cases h; rfl)
  | j + 7, v, h => by have h : none = some v := h; cases h
