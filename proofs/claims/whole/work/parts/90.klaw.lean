/-! A TEXT OF THE LAW: the class's reader -/
/-- what reading the law changes in the class -/
def oX (g g' : GG) : Prop := ∀ x j, ¬ (x = 4 ∧ 3 ≤ j ∧ j ≤ 6) → ¬ (x = 38 ∧ (j = 2 ∨ j = 3)) → x ≠ 39 → g' x j = g x j
theorem oX.trans {g1 g2 g3 : GG} (h : oX g1 g2) (h' : oX g2 g3) : oX g1 g3 := fun x j a b c => by rw [h' x j a b c, h x j a b c]
theorem oX.refl {g : GG} : oX g g := fun _ _ _ _ _ => rfl
theorem oL.x {B : Int} {g g' : GG} (h : oL B g g') : oX g g' := fun x j a b c => h x j a (by omega) (by omega)
theorem oT.x {g g' : GG} (h : oT g g') : oX g g' := fun x j a _ _ => h x j a
theorem CQ.ox {g g' : GG} {n : Int} {S P N : Int → Int} (h : CQ g n S P N) (o : oX g g') : CQ g' n S P N := fun k k0 k1 => by
  rw [o _ _ (by omega) (by omega) (by omega), o _ _ (by omega) (by omega) (by omega), o _ _ (by omega) (by omega) (by omega)]
  exact h k k0 k1
theorem LN1.cg {g g' : GG} {t : Int} {W W' : VV} {n : Nat} {B : Int} (h : LN1 g t W n) (hF : 0 ≤ lwF W n ∧ lwF W n ≤ lwT W n) (h0 : 0 ≤ psL W n) (hB : psL W (n + 1) ≤ B) (e : ∀ j, 0 ≤ j → j < B → g' (t + 1 + 0) j = g (t + 1 + 0) j) (hl : lwW W' n = lwW W n ∧ lwN W' n = lwN W n ∧ lwF W' n = lwF W n ∧ lwT W' n = lwT W n) (hp : psL W' n = psL W n) (hc : ∀ i, lwF W n ≤ i → i < lwT W n → lwC W' i = lwC W i ∧ lwA W' i = lwA W i) : LN1 g' t W' n := by
  obtain ⟨h1, h2, h3⟩ := h
  obtain ⟨l1, l2, l3, l4⟩ := hl
  have ep : psL W' (n + 1) = psL W (n + 1) := by rw [psL_s, psL_s, hp, l3, l4]
  have es := psL_s W n
  unfold LN1
  rw [ep, hp, l1, l2, l3, l4]
  by_cases z : lwF W n = lwT W n
  · rw [if_pos z] at es
    refine ⟨by rw [e _ (by omega) (by omega)]; exact h1, fun _ => by rw [e _ (by omega) (by omega)]; exact h2 z, fun k hk => by omega⟩
  · rw [if_neg z] at es
    refine ⟨by rw [e _ (by omega) (by omega)]; exact h1, fun y => absurd y z, fun k hk => ?_⟩
    rw [e _ (by omega) (by omega), (hc _ (by omega) (by omega)).1, (hc _ (by omega) (by omega)).2]
    exact h3 k hk
section KW
variable {Γ : Cfg} {l : Launch} {d b : Nat} {g : GG} {K : Ou → HP → Prop} {T S P N : Int → Int} {L n p e x y a : Int}
theorem k_emV {x1 x2 s : Int} (h : g 38 2 = s) (s0 : 0 ≤ s) (s1 : s < 400) (kk : ∀ g', g' 38 2 = s + 1 → g' 39 s = x1 * 1000 + x2 → (∀ x j, ¬ (x = 38 ∧ j = 2) → ¬ (x = 39 ∧ j = s) → g' x j = g x j) → K (.inl vU) (stt g')) : Ct Γ l d b yX4_emit mX4_emit [vR 38, vI x1, vI x2] (stt g) K := by
  apply wpX4_emit LA38
  rw [h, LA38.l0, wr_id (x := s) (by omega) (by omega)]
  refine ⟨fun z => absurd z (by omega), fun _ => ⟨fun z => absurd z (by omega), fun _ => ⟨by omega, fun g1 e1 => ?_⟩⟩⟩
  have e2 : g1 38 2 = s := by rw [e1, upd2_ne (by decide), h]
  rw [e2]
  refine kk _ upd2_eq (by rw [upd2_ne (by decide), e1]; exact upd2_eq) (fun x j a1 a2 => ?_)
  rw [show upd2 g1 38 2 (s + 1) x j = g1 x j from if_neg (fun z => a1 ⟨z.2, z.1⟩), e1]
  exact if_neg (fun z => a2 ⟨by omega, z.1⟩)
/-- lines of the class's draft so far -/
def LZ (g : GG) (W : VV) (c k a : Int) : Prop := LV W c k ∧ (g 38 3 = k ∧ g 38 2 = psL W k.toNat ∧ 0 ≤ psL W k.toNat ∧ psL W k.toNat ≤ a ∧ c ≤ a) ∧ ∀ n : Nat, (n : Int) < k → LN1 g 38 W n ∧ 0 ≤ psL W n ∧ psL W (n + 1) ≤ psL W k.toNat
def KT (g : GG) (S P N : Int → Int) (r : RT) (K : Ou → HP → Prop) : Prop := ∀ g', oX g g' → CP g' S P N r.2.1 → (r.1 = true → ∃ c, LZ g' r.2.2.1 c r.2.2.2 400) → K (.inl (vI (if r.1 = true then 1 else 0))) (stt g')
theorem LZ.line {g g' : GG} {W : VV} {c k : Int} {x : Int × Int × QQ} {m : Int} (h : LZ g W c k a) (k12 : k < 12) (hw : 0 ≤ x.1 ∧ x.1 ≤ 2) (hn : 0 ≤ x.2.1 ∧ x.2.1 ≤ 40) (hq : x.2.2.1 = 0 ∨ GQ x.2.2 [true]) (q0 : 0 ≤ x.2.2.1) (hm : a + (if x.2.2.1 = 0 then 2 else x.2.2.1 + 3) ≤ m) (m4 : m ≤ 400)
    (e : ∀ j, 0 ≤ j → j < psL W k.toNat → g' 39 j = g 39 j) (e3 : g' 38 3 = k + 1) (e2 : g' 38 2 = psL W k.toNat + (if x.2.2.1 = 0 then 2 else x.2.2.1 + 1)) (eL : g' 39 (psL W k.toNat + (if x.2.2.1 = 0 then 2 else x.2.2.1 + 1) - 1) = (8 + x.1) * 1000 + x.2.1) (e0 : x.2.2.1 = 0 → g' 39 (psL W k.toNat) = 1) (eC : ∀ i, 0 ≤ i → i < x.2.2.1 → g' 39 (psL W k.toNat + i) = csW (x.2.2.2.1 i) (x.2.2.2.2 i)) : LZ g' (adL W k c x) (c + x.2.2.1) (k + 1) m := by
  obtain ⟨hV, ⟨h3, h2, hB0, hB1, hc⟩, hl⟩ := h
  have hk := hV.1
  have cm : c + x.2.2.1 ≤ m := by
    by_cases z : x.2.2.1 = 0
    · rw [if_pos z] at hm; omega
    · rw [if_neg z] at hm; omega
  have hV' := hV.add (x := x) k12 hw hn hq q0 (by omega)
  have old := fun j hj => adL_old (W := W) (k := k) (c := c) (x := x) k12 hk.2.2 j hj
  have ps : ∀ i : Nat, (i : Int) ≤ k → psL (adL W k c x) i = psL W i := fun i hi => psL_cg2 fun j hj => ⟨old _ (by omega), old _ (by omega)⟩
  obtain ⟨l1, l2, l3, l4⟩ := adL_line (W := W) (x := x) hk.1 k12 hk.2.2
  have kn : (k.toNat : Int) = k := by omega
  have pk : psL (adL W k c x) (k.toNat + 1) = psL W k.toNat + (if x.2.2.1 = 0 then 2 else x.2.2.1 + 1) := by
    rw [psL_s, kn, l3, l4, ps _ (by omega)]
    by_cases z : x.2.2.1 = 0
    · rw [if_pos (by omega), if_pos z]
    · rw [if_neg (by omega), if_neg z, show c + x.2.2.1 - c + 1 = x.2.2.1 + 1 by omega]
  have ek : (k + 1).toNat = k.toNat + 1 := by omega
  have pp : psL W k.toNat ≤ psL (adL W k c x) (k.toNat + 1) ∧ psL (adL W k c x) (k.toNat + 1) ≤ m := by
    rw [pk]
    by_cases z : x.2.2.1 = 0
    · rw [if_pos z] at hm ⊢; omega
    · rw [if_neg z] at hm ⊢; omega
  refine ⟨hV', ⟨e3, by rw [ek, pk]; exact e2, by rw [ek]; omega, by rw [ek]; omega, cm⟩, fun i hi => ?_⟩
  rw [ek]
  by_cases z : (i : Int) = k
  · have ei : i = k.toNat := by omega
    rw [ei]
    refine ⟨?_, by rw [ps _ (by omega)]; exact hB0, Int.le_refl _⟩
    unfold LN1
    rw [pk, ps _ (by omega), kn, l1, l2, l3, l4]
    refine ⟨eL, fun w => e0 (by omega), fun j hj => ?_⟩
    have := adL_code (W := W) (k := k) (c := c) (x := x) k12 hk.2.2 (i := (j : Int)) (by omega) (by omega)
    rw [this.1, this.2]
    exact eC j (by omega) (by omega)
  · have hh := hl i (by omega)
    have hb := hV.2 i (by omega)
    have hF := hb.1.2.2.1
    refine ⟨hh.1.cg (B := psL W k.toNat) ⟨hF.1, hF.2.1⟩ hh.2.1 hh.2.2 e ⟨old _ (by omega), old _ (by omega), old _ (by omega), old _ (by omega)⟩ (ps i (by omega)) (fun j j0 j1 => ⟨old _ (by omega), old _ (by omega)⟩), by rw [ps i (by omega)]; exact hh.2.1, ?_⟩
    rw [ps (i + 1) (by omega)]
    omega
end KW
