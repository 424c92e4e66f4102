/-! SHARED HELPERS: rows copied, a field or a cell of the shared rows read and written -/
theorem sz_P {Γ : Cfg} {h : HP} {H : Heap} (hn : h.2.2 = NN) (hP : va_P Γ.2.2.1 vwCl (wl Γ h) H) : szOK Γ h H := by
  obtain ⟨q0, hq⟩ := wl_get (Γ := Γ) (h := h) (t := 190) (by decide) (by decide) (by rw [hn]; decide)
  have := (hP q0 _ hq).lt
  have e : ad Γ 190 = Γ.1 + 189 := ad_lo Γ (by decide)
  rw [e] at this
  exact Or.inr ⟨hn, by show Γ.1 + 190 ≤ H.size; omega⟩
def cpy (g : GG) (r q sp dp n : Int) : GG := fun a j => if a = q ∧ dp ≤ j ∧ j < dp + n then g r (sp + (j - dp)) else g a j
section AMK
variable {Γ : Cfg} {l : Launch} {M : MT} {d b pc : Nat} {L S : List AV} {K : Ou → HP → Prop} {g : GG}
set_option maxHeartbeats 1000000 in
theorem aw_copy {r q sp dp n : Int} {idx : Nat} {n0 n1 : Nat} (dg : decode M.2.1 pc = .ok (.invokestatic idx, 3)) (hl : Cond.methodLink M.1 idx arraycopyName ∈ gw) (hnat : Cond.native arraycopyName ∈ gw) (hst9 : Cond.static arraycopyName ∈ gw) (hini : Cond.initialized "java/lang/System" ∈ gw)
    (ha : isA (stt g) r 0 n0) (hb9 : isA (stt g) q 0 n1) {sp' dp' n' : Int} (e1 : wr sp = sp') (e2 : wr dp = dp') (e3 : wr n = n') (hc : (0 ≤ sp' ∧ 0 ≤ dp' ∧ 0 ≤ n') ∧ sp' + n' ≤ n0 ∧ dp' + n' ≤ n1) (ho : ∀ v ∈ S, oneSlot v) (hs8 : S.length ≤ 8)
    (k : AW Γ l M d b (pc + 3) L S (stt (cpy g r q sp' dp' n')) K) : AW Γ l M d b pc L (vI n :: vI dp :: vR q :: vI sp :: vR r :: S) (stt g) K := by
  subst e1 e2 e3
  obtain ⟨⟨h1, h2, h3⟩, h4, h5⟩ := hc
  intro p e R s m args below meth c H locs cells slots mc ms ls C0 hls hx
  obtain ⟨t1, t2⟩ := isA_lt (by omega) ha
  obtain ⟨u1, u2⟩ := isA_lt (by omega) hb9
  obtain ⟨q0, hq0⟩ := wl_get (Γ := Γ) (h := stt g) t1 t2 ha.2
  obtain ⟨q1, hq1⟩ := wl_get (Γ := Γ) (h := stt g) u1 u2 hb9.2
  have hset := wl_set (h' := stt (cpy g r q (wr sp) (wr dp) (wr n))) u1 u2 hb9.2 hq1 rfl (fun t' ht => by
    have e9 : ∀ i : Int, cpy g r q (wr sp) (wr dp) (wr n) t' i = g t' i := fun i => if_neg (fun z => ht z.1)
    unfold ent entS flv fvl
    simp only [e9])
  rw [ent_row ha.1] at hq0
  rw [ent_row hb9.1] at hq1 hset
  obtain ⟨hx0, hb, hml, hown, hts, hlk, hret, hst, hS, hv, hR, hf, hlo, hc1, hc2, hc3, hc4⟩ := id C0
  have hsum := cat_sum (Γ := Γ) S ho
  show W p l e R s m args below meth c H locs cells slots _ (F0 m pc ls (.int (Int32.ofInt n) :: .int (Int32.ofInt dp) :: va_rf (rf Γ q) :: .int (Int32.ofInt sp) :: va_rf (rf Γ r) :: S.map (conc Γ)))
  rw [rf_ad t1, rf_ad u1]
  have c1 := clamp_wr h1
  have c2 := clamp_wr h2
  have c3 := clamp_wr h3
  refine va_copyi hx0 hb (hml.trans hls.1.symm) hown (hts _ hl) (hts _ hnat) (hts _ hst9) (hts _ hini) hS.1 hR.1 (wl_D Γ _) hv q0 q1 0 0 hq0 hq1 rfl rfl rfl (fun z => absurd (wr_lt0.mp z) (by omega)) (fun z => absurd (wr_lt0.mp z) (by omega)) (fun z => absurd (wr_lt0.mp z) (by omega)) (by omega) (by omega) (fun i _ => rfl) (by omega) ?_ dg ?_
  · have : nativeFrameWords "java/lang/System" "arraycopy" 5 ≤ 40 := by decide +kernel
    omega
  · intro H1 locs1 hP1 hD1 hS1
    have he : (va_cpy (fun j : Nat => Int32.ofInt (g r j)) (fun j : Nat => Int32.ofInt (g q j)) (Int32.ofInt sp).toNatClampNeg (Int32.ofInt dp).toNatClampNeg (Int32.ofInt n).toNatClampNeg) = (fun j : Nat => Int32.ofInt (cpy g r q (wr sp) (wr dp) (wr n) q j)) := by
      funext j
      unfold va_cpy cpy
      by_cases z : (Int32.ofInt dp).toNatClampNeg ≤ j ∧ j < (Int32.ofInt dp).toNatClampNeg + (Int32.ofInt n).toNatClampNeg
      · rw [if_pos z, if_pos ⟨rfl, by omega, by omega⟩]
        have e8 : ((((Int32.ofInt sp).toNatClampNeg + (j - (Int32.ofInt dp).toNatClampNeg) : Nat)) : Int) = wr sp + ((j : Int) - wr dp) := by
          have := z.1
          omega
        exact congrArg (fun z : Int => Int32.ofInt (g r z)) e8
      · rw [if_neg z, if_neg (fun y => z ⟨by omega, by omega⟩)]
    have hP2 : va_P Γ.2.2.1 vwCl (wl Γ (stt (cpy g r q (wr sp) (wr dp) (wr n)))) H1 := by
      rw [← hset]
      have : entS Γ (stt (cpy g r q (wr sp) (wr dp) (wr n))) q (0, n1) = .inl (Γ.2.2.2.1 0, n1, .inl (va_cpy (fun j : Nat => Int32.ofInt (g r j)) (fun j : Nat => Int32.ofInt (g q j)) (Int32.ofInt sp).toNatClampNeg (Int32.ofInt dp).toNatClampNeg (Int32.ofInt n).toNatClampNeg)) := by
        rw [he]
        rfl
      rw [this]
      exact hP1
    exact k p e R s m args below meth c H1 locs1 cells slots mc ms ls ⟨hx0, hb, hml, hown, hts, hlk, hret, hst, hS, hS1, ⟨hP2, sz_P rfl hP2⟩, hf, hlo, hc1, hc2, hc3, hc4⟩ hls hx
end AMK
