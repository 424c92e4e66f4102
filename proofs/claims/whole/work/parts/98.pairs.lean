/-! CLASS AND REFERENCE, call by call: they answer alike and are tied behind it -/
/-- how a call of the reference ends; of the class, with what it throws by number -/
def RK (B : Int → GG → Prop) : Ou → HP → Prop := fun o h => ∃ b g3, (o = .inl (vI b) ∧ h = stt g3) ∧ B b g3
def CK (nms : List String) (A : Int → Int → GG → Prop) : Ou → HP → Prop := fun o h => ∃ c v g1, (o = oc nms (c, v) ∧ h = stt g1) ∧ A c v g1
def CK0 (A : Int → GG → Prop) : Ou → HP → Prop := fun o h => ∃ v g1, (o = .inl (vI v) ∧ h = stt g1) ∧ A v g1
def VK (A : GG → Prop) : Ou → HP → Prop := fun o h => ∃ g1, (o = .inl vU ∧ h = stt g1) ∧ A g1
/-- alike below row 190 -/
def lo9 (g g2 : GG) : Prop := ∀ a j, a < 190 → g2 a j = g a j
def Pr (nms : List String) (C : (Ou → HP → Prop) → Prop) (R : GG → (Ou → HP → Prop) → Prop) : Prop :=
  ∀ A : Int → Int → GG → Prop,
    (∀ (c v : Int) (g1 : GG), 0 ≤ c → c ≤ nms.length → (∀ (g2 : GG) (B : Int → GG → Prop), lo9 g1 g2 → (∀ b g3, Rel9 g3 → g3 171 0 = c → (c = 0 → b = v) → (∀ j, g3 190 j = g2 190 j) → B b g3) → R g2 (RK B)) → A c v g1) →
    C (CK nms A)
def Pr0 (C : (Ou → HP → Prop) → Prop) (R : GG → (Ou → HP → Prop) → Prop) : Prop :=
  ∀ A : Int → GG → Prop,
    (∀ (v : Int) (g1 : GG), (∀ (g2 : GG) (B : Int → GG → Prop), lo9 g1 g2 → (∀ g3, Rel9 g3 → (∀ j, g3 190 j = g2 190 j) → B v g3) → R g2 (RK B)) → A v g1) →
    C (CK0 A)
def PrV (C : (Ou → HP → Prop) → Prop) (R : GG → (Ou → HP → Prop) → Prop) : Prop :=
  ∀ A : GG → Prop,
    (∀ g1 : GG, (∀ (g2 : GG) (B : GG → Prop), lo9 g1 g2 → (∀ g3, Rel9 g3 → (∀ j, g3 190 j = g2 190 j) → B g3) → R g2 (VK B)) → A g1) →
    C (VK A)
def mixG (g g2 : GG) : GG := fun a j => if a < 190 then g a j else g2 a j
theorem mix_lo {g g2 : GG} {a j : Int} (h : a < 190) : mixG g g2 a j = g a j := if_pos h
theorem mix_hi {g g2 : GG} {a j : Int} (h : ¬ a < 190) : mixG g g2 a j = g2 a j := if_neg h
theorem cX_190 {a j : Int} (h : cX a j) : a < 171 := by unfold cX at h; omega
theorem mX_190 {a j : Int} (h : mX a j) : a < 190 ∧ 171 ≤ a := by unfold mX at h; omega
theorem mix_rel {g g2 : GG} (h : Rel9 g) : Rel9 (mixG g g2) :=
  CRel.cong h (fun a j hx => mix_lo (by have := cX_190 hx; omega)) (fun a j hx => mix_lo (mX_190 hx).1)
section PRS
variable {g : GG} {nms : List String} {s : Int × Int} {C : (Ou → HP → Prop) → Prop} {R : GG → (Ou → HP → Prop) → Prop}
theorem pr_ask (h : Rel9 g) (hs : 0 ≤ s.1 ∧ s.1 ≤ nms.length) (hC : ∀ K : Ou → HP → Prop, (∀ g', kC g g' → K (oc nms s) (stt g')) → C K) (hR : ∀ (g2 : GG) (K : Ou → HP → Prop), g2 172 = g 172 → mc g2 s K → R g2 K) : Pr nms C R := by
  intro A hA
  refine hC _ fun g1 c1 => ⟨s.1, s.2, g1, ⟨rfl, rfl⟩, hA _ _ _ hs.1 hs.2 fun g2 B e hB => ?_⟩
  have cm : kC (mixG g g2) g2 := fun a j hx => by
    by_cases q : a < 190
    · rw [mix_lo q, e a j q, c1 a j hx]
    · rw [mix_hi q]
  have r2 : Rel9 g2 := (mix_rel h).ask cm kM.rf
  exact hR g2 _ (funext fun j => by rw [e _ _ (by decide), c1 _ _ (Or.inl (by decide))]) fun g3 m3 z => ⟨s.2, g3, ⟨rfl, rfl⟩, hB _ _ (r2.ask kC.rf m3) z (fun _ => rfl) fun j => m3 _ _ (Or.inr (Or.inl (by decide)))⟩
theorem pr_use (h : Rel9 g) (hs : 0 ≤ s.1 ∧ s.1 ≤ nms.length) (hC : ∀ K : Ou → HP → Prop, (∀ g', kU g g' → K (oc nms s) (stt g')) → C K) (hR : ∀ (g2 : GG) (K : Ou → HP → Prop), g2 172 = g 172 → MB g2 (g 3) (g 171 9) → mcU g2 s K → R g2 K) : Pr nms C R := by
  intro A hA
  refine hC _ fun g1 c1 => ⟨s.1, s.2, g1, ⟨rfl, rfl⟩, hA _ _ _ hs.1 hs.2 fun g2 B e hB => ?_⟩
  have cm : kU (mixG g g2) g2 := ⟨fun a j hx => by
    by_cases q : a < 190
    · rw [mix_lo q, e a j q, c1.1 a j hx]
    · rw [mix_hi q], by rw [e _ _ (by decide)]; exact c1.2⟩
  have hi : ∀ a j, 171 ≤ a → a < 190 → g2 a j = g a j := fun a j h1 h2 => by rw [e a j h2, c1.1 a j ⟨Or.inl h1, by omega⟩]
  have mb := h.tb.2
  refine hR g2 _ (funext fun j => hi _ _ (by decide) (by decide)) ⟨⟨hi _ _ (by decide) (by decide), mb.1.2⟩, fun i i0 i1 => by rw [hi _ _ (by decide) (by decide)]; exact mb.2 i i0 i1⟩ fun g3 m3 z => ⟨s.2, g3, ⟨rfl, rfl⟩, hB _ _ ((mix_rel h).use cm m3) z (fun _ => rfl) fun j => m3.1 _ _ ⟨Or.inr (Or.inl (by decide)), by omega⟩⟩
theorem AC.mix {m m1 m' : GG} {V' : VV} (e : lo9 m m1) (h : AC m1 m' V') : AC m m' V' := by
  obtain ⟨c1, c2, c3, ⟨c6, c9, c14⟩, c7, c8⟩ := h
  have e7 : m1 171 7 = m 171 7 := e _ _ (by decide)
  refine ⟨c1, by rw [c2]; exact funext fun j => e _ _ (by decide), fun i => by rw [c3, e _ _ (by decide)], ⟨by rw [c6, e _ _ (by decide)], by rw [c9, e _ _ (by decide)], by rw [c14, e _ _ (by decide)]⟩, by rw [c7, e7], fun k k0 k1 j j0 j1 => ?_⟩
  rw [c8 k k0 k1 j j0 j1, e7, e 172 j (by decide)]
  by_cases x : k = m' 171 7 - 1
  · rw [if_pos x, if_pos x]
  · rw [if_neg x, if_neg x]
    exact e _ _ (by decide)
theorem mix9 {g g2 : GG} : lo9 g (mixG g g2) := fun a j h => mix_lo h
theorem pr_act {V' : VV} (h : Rel9 g) (hs : 0 ≤ s.1 ∧ s.1 ≤ nms.length) (hC : ∀ K : Ou → HP → Prop, aC nms g g s V' K → C K) (hR : ∀ (g2 : GG) (K : Ou → HP → Prop), g2 172 = g 172 → g2 171 7 = g 171 7 → aM g2 s V' K → R g2 K) : Pr nms C R := by
  intro A hA
  refine hC _ fun g1 u1 ca cr => ⟨s.1, s.2, g1, ⟨rfl, rfl⟩, hA _ _ _ hs.1 hs.2 fun g2 B e hB => ?_⟩
  have hi : ∀ a j, 171 ≤ a → a < 190 → g2 a j = g a j := fun a j h1 h2 => by rw [e a j h2, u1 a j h1]
  have u9 : uC (mixG g g2) g2 := fun a j hx => by
    by_cases q : a < 190
    · rw [mix_lo q, hi a j hx q]
    · rw [mix_hi q]
  refine hR g2 _ (funext fun j => hi _ _ (by decide) (by decide)) (hi _ _ (by decide) (by decide)) fun g3 um ac km z => ⟨s.2, g3, ⟨rfl, rfl⟩, hB _ _ (Rel9.act (g := mixG g g2) (g1 := g2) (g2 := g3) (s := s) (V' := V') u9 (fun c m' hac => ?_) (fun c => ?_) um ac km) z (fun _ => rfl) (fun j => um _ _ (Or.inr (by decide)))⟩
  · exact (ca c m' (AC.mix mix9 hac)).cong (fun a j hx => e a j (by have := cX_190 hx; omega)) (fun _ _ _ => rfl)
  · exact (cr c).cong (fun a j hx => e a j (by have := cX_190 hx; omega)) (fun a j hx => mix_lo (mX_190 hx).1)
theorem rel_fin {g1 g2 g3 : GG} (q : CRel g1 g3) (e : lo9 g1 g2) (f : ∀ a j, a < 171 → g3 a j = g2 a j) : Rel9 g3 :=
  q.cong (fun a j hx => by have := cX_190 hx; rw [f a j this, e a j (by omega)]) (fun _ _ _ => rfl)
end PRS
