/-! RULES OF AW: arrays -/
def isA (h : HP) (t : Int) (k n : Nat) : Prop := shp t = (k, n) ∧ t ≤ h.2.2
theorem isA_lt {h : HP} {t : Int} {k n : Nat} (hk : k ≠ 99) (ha : isA h t k n) : 1 ≤ t ∧ t ≤ 190 := shp_lt (by rw [ha.1]; exact hk)
theorem clamp_wr {j : Int} (h0 : 0 ≤ wr j) : (((Int32.ofInt j).toNatClampNeg : Nat) : Int) = wr j := by
  show (((Int32.ofInt j).toInt.toNat : Nat) : Int) = (Int32.ofInt j).toInt
  exact Int.toNat_of_nonneg h0
theorem vp_in_wr {j : Int} {n : Nat} (h0 : 0 ≤ wr j) (h1 : wr j < n) : vp_in (Int32.ofInt j) n := by
  intro q
  rcases q with q | q
  · exact absurd (wr_lt0.mp q) (by omega)
  · have := clamp_wr h0
    omega
theorem ent_row {Γ : Cfg} {h : HP} {t : Int} {k n : Nat} (hs : shp t = (k, n)) : ent Γ h t = entS Γ h t (k, n) := by
  unfold ent
  rw [hs]
theorem upd2_row {h : HP} {t : Int} {j x : Int} (h0 : 0 ≤ wr j) {α : Type} (F : Int → α) : (fun q : Nat => F (upd2 h.1 t (wr j) x t q)) = (fun q : Nat => if q = (Int32.ofInt j).toNatClampNeg then F x else F (h.1 t q)) := by
  funext q
  have hc := clamp_wr h0
  unfold upd2
  by_cases e : q = (Int32.ofInt j).toNatClampNeg
  · rw [if_pos e, if_pos ⟨by omega, rfl⟩]
  · rw [if_neg e, if_neg (fun z => e (by have := z.1; omega))]
section AMA
variable {Γ : Cfg} {l : Launch} {M : MT} {d b pc : Nat} {L S : List AV} {h : HP} {K : Ou → HP → Prop}
theorem aw_alen {t : Int} {k n : Nat} (dg : decode M.2.1 pc = .ok (.arraylength, 1)) (hk : k < 6) (ha : isA h t k n) (kk : AW Γ l M d b (pc + 1) L (vI n :: S) h K) : AW Γ l M d b pc L (vR t :: S) h K := by
  intro p e R s m args below meth c H locs cells slots mc ms ls C0 hls hx
  obtain ⟨t1, t2⟩ := isA_lt (by omega) ha
  obtain ⟨q0, hq0⟩ := wl_get (Γ := Γ) (h := h) t1 t2 ha.2
  rw [ent_row ha.1] at hq0
  have k1 := kk p e R s m args below meth c H locs cells slots mc ms ls C0 hls hx
  obtain ⟨hx0, hb, hml, hown, hts, hlk, hret, hst, hS, hv, hR, hrest⟩ := C0
  show W p l e R s m args below meth c H locs cells slots _ (F0 m pc ls (va_rf (rf Γ t) :: S.map (conc Γ)))
  rw [rf_ad t1]
  have hv : Int32.ofNat n = Int32.ofInt n := Int32.ofInt_eq_ofNat.symm
  match k, hk with
  | 0, _ => exact va_alen hx0 hb hS.1 hR.1 q0 0 hq0 rfl hv dg k1
  | 1, _ => exact va_alen hx0 hb hS.1 hR.1 q0 1 hq0 rfl hv dg k1
  | 2, _ => exact va_alen hx0 hb hS.1 hR.1 q0 2 hq0 rfl hv dg k1
  | 3, _ => exact va_alen hx0 hb hS.1 hR.1 q0 3 hq0 rfl hv dg k1
  | 4, _ => exact va_alen hx0 hb hS.1 hR.1 q0 4 hq0 rfl hv dg k1
  | 5, _ => exact va_alen hx0 hb hS.1 hR.1 q0 5 hq0 rfl hv dg k1
theorem aw_iald {t j : Int} {n : Nat} (dg : decode M.2.1 pc = .ok (.iaload, 1)) (ha : isA h t 0 n) (h0 : 0 ≤ wr j) (h1 : wr j < n) (kk : AW Γ l M d b (pc + 1) L (vI (h.1 t (wr j)) :: S) h K) : AW Γ l M d b pc L (vI j :: vR t :: S) h K := by
  intro p e R s m args below meth c H locs cells slots mc ms ls C0 hls hx
  obtain ⟨t1, t2⟩ := isA_lt (by omega) ha
  obtain ⟨q0, hq0⟩ := wl_get (Γ := Γ) (h := h) t1 t2 ha.2
  rw [ent_row ha.1] at hq0
  have k1 := kk p e R s m args below meth c H locs cells slots mc ms ls C0 hls hx
  obtain ⟨hx0, hb, hml, hown, hts, hlk, hret, hst, hS, hv, hR, hrest⟩ := C0
  show W p l e R s m args below meth c H locs cells slots _ (F0 m pc ls (.int (Int32.ofInt j) :: va_rf (rf Γ t) :: S.map (conc Γ)))
  rw [rf_ad t1]
  refine va_iald hx0 hb hS.1 hR.1 q0 0 hq0 rfl (vp_in_wr h0 h1) dg ?_
  rw [clamp_wr h0]
  exact k1
theorem aw_bald {t j : Int} {n : Nat} (dg : decode M.2.1 pc = .ok (.baload, 1)) (ha : isA h t 1 n) (h0 : 0 ≤ wr j) (h1 : wr j < n) (kk : AW Γ l M d b (pc + 1) L (vI (h.1 t (wr j)) :: S) h K) : AW Γ l M d b pc L (vI j :: vR t :: S) h K := by
  intro p e R s m args below meth c H locs cells slots mc ms ls C0 hls hx
  obtain ⟨t1, t2⟩ := isA_lt (by omega) ha
  obtain ⟨q0, hq0⟩ := wl_get (Γ := Γ) (h := h) t1 t2 ha.2
  rw [ent_row ha.1] at hq0
  have k1 := kk p e R s m args below meth c H locs cells slots mc ms ls C0 hls hx
  obtain ⟨hx0, hb, hml, hown, hts, hlk, hret, hst, hS, hv, hR, hrest⟩ := C0
  show W p l e R s m args below meth c H locs cells slots _ (F0 m pc ls (.int (Int32.ofInt j) :: va_rf (rf Γ t) :: S.map (conc Γ)))
  rw [rf_ad t1]
  refine va_bald hx0 hb hS.1 hR.1 q0 1 hq0 rfl (vp_in_wr h0 h1) dg ?_
  rw [clamp_wr h0]
  exact k1
theorem aw_zald {t j : Int} {n : Nat} (dg : decode M.2.1 pc = .ok (.baload, 1)) (ha : isA h t 2 n) (h0 : 0 ≤ wr j) (h1 : wr j < n) (kk : AW Γ l M d b (pc + 1) L (vI (h.1 t (wr j)) :: S) h K) : AW Γ l M d b pc L (vI j :: vR t :: S) h K := by
  intro p e R s m args below meth c H locs cells slots mc ms ls C0 hls hx
  obtain ⟨t1, t2⟩ := isA_lt (by omega) ha
  obtain ⟨q0, hq0⟩ := wl_get (Γ := Γ) (h := h) t1 t2 ha.2
  rw [ent_row ha.1] at hq0
  have k1 := kk p e R s m args below meth c H locs cells slots mc ms ls C0 hls hx
  obtain ⟨hx0, hb, hml, hown, hts, hlk, hret, hst, hS, hv, hR, hrest⟩ := C0
  show W p l e R s m args below meth c H locs cells slots _ (F0 m pc ls (.int (Int32.ofInt j) :: va_rf (rf Γ t) :: S.map (conc Γ)))
  rw [rf_ad t1]
  refine va_zald hx0 hb hS.1 hR.1 q0 2 hq0 rfl (vp_in_wr h0 h1) dg ?_
  rw [clamp_wr h0]
  exact k1
theorem aw_lald {t j : Int} {n : Nat} (dg : decode M.2.1 pc = .ok (.laload, 1)) (ha : isA h t 3 n) (h0 : 0 ≤ wr j) (h1 : wr j < n) (kk : AW Γ l M d b (pc + 1) L (vL (h.1 t (wr j)) :: S) h K) : AW Γ l M d b pc L (vI j :: vR t :: S) h K := by
  intro p e R s m args below meth c H locs cells slots mc ms ls C0 hls hx
  obtain ⟨t1, t2⟩ := isA_lt (by omega) ha
  obtain ⟨q0, hq0⟩ := wl_get (Γ := Γ) (h := h) t1 t2 ha.2
  rw [ent_row ha.1] at hq0
  have k1 := kk p e R s m args below meth c H locs cells slots mc ms ls C0 hls hx
  obtain ⟨hx0, hb, hml, hown, hts, hlk, hret, hst, hS, hv, hR, hrest⟩ := C0
  show W p l e R s m args below meth c H locs cells slots _ (F0 m pc ls (.int (Int32.ofInt j) :: va_rf (rf Γ t) :: S.map (conc Γ)))
  rw [rf_ad t1]
  refine va_lald hx0 hb hS.1 hR.1 q0 3 hq0 rfl (vp_in_wr h0 h1) dg ?_
  rw [clamp_wr h0]
  exact k1
/-- a reference out of a row that stands (k = 4) -/
theorem aw_aald4 {t j : Int} {n : Nat} (dg : decode M.2.1 pc = .ok (.aaload, 1)) (ha : isA h t 4 n) (h0 : 0 ≤ wr j) (h1 : wr j < n) (kk : AW Γ l M d b (pc + 1) L (vR (h.2.1 t (wr j)) :: S) h K) : AW Γ l M d b pc L (vI j :: vR t :: S) h K := by
  intro p e R s m args below meth c H locs cells slots mc ms ls C0 hls hx
  obtain ⟨t1, t2⟩ := isA_lt (by omega) ha
  obtain ⟨q0, hq0⟩ := wl_get (Γ := Γ) (h := h) t1 t2 ha.2
  rw [ent_row ha.1] at hq0
  have k1 := kk p e R s m args below meth c H locs cells slots mc ms ls C0 hls hx
  obtain ⟨hx0, hb, hml, hown, hts, hlk, hret, hst, hS, hv, hR, hrest⟩ := C0
  show W p l e R s m args below meth c H locs cells slots _ (F0 m pc ls (.int (Int32.ofInt j) :: va_rf (rf Γ t) :: S.map (conc Γ)))
  rw [rf_ad t1]
  refine va_aldq hx0 hb hS.1 hR.1 q0 4 hq0 rfl (vp_in_wr h0 h1) dg ?_
  rw [clamp_wr h0]
  exact k1
theorem aw_aald5 {t j : Int} {n : Nat} (dg : decode M.2.1 pc = .ok (.aaload, 1)) (ha : isA h t 5 n) (h0 : 0 ≤ wr j) (h1 : wr j < n) (kk : AW Γ l M d b (pc + 1) L (vR (h.1 t (wr j)) :: S) h K) : AW Γ l M d b pc L (vI j :: vR t :: S) h K := by
  intro p e R s m args below meth c H locs cells slots mc ms ls C0 hls hx
  obtain ⟨t1, t2⟩ := isA_lt (by omega) ha
  obtain ⟨q0, hq0⟩ := wl_get (Γ := Γ) (h := h) t1 t2 ha.2
  rw [ent_row ha.1] at hq0
  have k1 := kk p e R s m args below meth c H locs cells slots mc ms ls C0 hls hx
  obtain ⟨hx0, hb, hml, hown, hts, hlk, hret, hst, hS, hv, hR, hrest⟩ := C0
  show W p l e R s m args below meth c H locs cells slots _ (F0 m pc ls (.int (Int32.ofInt j) :: va_rf (rf Γ t) :: S.map (conc Γ)))
  rw [rf_ad t1]
  refine va_aldq hx0 hb hS.1 hR.1 q0 5 hq0 rfl (vp_in_wr h0 h1) dg ?_
  rw [clamp_wr h0]
  exact k1
theorem aw_iast {t j x : Int} {n : Nat} (dg : decode M.2.1 pc = .ok (.iastore, 1)) (ha : isA h t 0 n) (h0 : 0 ≤ wr j) (h1 : wr j < n) (kk : AW Γ l M d b (pc + 1) L S (upd2 h.1 t (wr j) x, h.2) K) : AW Γ l M d b pc L (vI x :: vI j :: vR t :: S) h K := by
  intro p e R s m args below meth c H locs cells slots mc ms ls C0 hls hx
  obtain ⟨t1, t2⟩ := isA_lt (by omega) ha
  obtain ⟨q0, hq0⟩ := wl_get (Γ := Γ) (h := h) t1 t2 ha.2
  rw [ent_row ha.1] at hq0
  obtain ⟨hx0, hb, hml, hown, hts, hlk, hret, hst, hS, hv, hR, hrest⟩ := id C0
  show W p l e R s m args below meth c H locs cells slots _ (F0 m pc ls (.int (Int32.ofInt x) :: .int (Int32.ofInt j) :: va_rf (rf Γ t) :: S.map (conc Γ)))
  rw [rf_ad t1]
  refine W.iast hx0 hb (hR.1 q0 _ hq0) ((hS.1.2 0 _ rfl).1 n (fun j => .int (Int32.ofInt (h.1 t j)))) (fun q => by cases q) (by show ¬ (_ ∨ (arrV _ _ _).slots.size ≤ _); rw [arrV_size]; exact vp_in_wr h0 h1) rfl rfl dg fun H1 e z oq => ?_
  refine az_ctx (h' := (upd2 h.1 t (wr j) x, h.2)) (pc1 := pc + 1) C0 hls hx t1 t2 ha.2 z oq ?_ rfl (fun t' q => entS_upd q) kk
  show va_at _ _ (_, ent Γ _ t) H1
  rw [ent_row ha.1]
  show H1[_]? = some (arrV _ _ (fun q : Nat => Value.int (Int32.ofInt (upd2 h.1 t (wr j) x t q))))
  rw [e, upd2_row h0 (fun z => Value.int (Int32.ofInt z))]
  exact congrArg some (arrV_store _ _ _ _ _)
theorem aw_bast {t j x : Int} {n : Nat} (dg : decode M.2.1 pc = .ok (.bastore, 1)) (ha : isA h t 1 n) (h0 : 0 ≤ wr j) (h1 : wr j < n) (kk : AW Γ l M d b (pc + 1) L S (upd2 h.1 t (wr j) (iB x), h.2) K) : AW Γ l M d b pc L (vI x :: vI j :: vR t :: S) h K := by
  intro p e R s m args below meth c H locs cells slots mc ms ls C0 hls hx
  obtain ⟨t1, t2⟩ := isA_lt (by omega) ha
  obtain ⟨q0, hq0⟩ := wl_get (Γ := Γ) (h := h) t1 t2 ha.2
  rw [ent_row ha.1] at hq0
  obtain ⟨hx0, hb, hml, hown, hts, hlk, hret, hst, hS, hv, hR, hrest⟩ := id C0
  show W p l e R s m args below meth c H locs cells slots _ (F0 m pc ls (.int (Int32.ofInt x) :: .int (Int32.ofInt j) :: va_rf (rf Γ t) :: S.map (conc Γ)))
  rw [rf_ad t1]
  refine W.bast hx0 hb (hR.1 q0 _ hq0) ((hS.1.2 1 _ rfl).1 n (fun j => .int (Int32.ofInt (h.1 t j)))) (fun q => by cases q) (by show ¬ (_ ∨ (arrV _ _ _).slots.size ≤ _); rw [arrV_size]; exact vp_in_wr h0 h1) rfl rfl dg fun H1 e z oq => ?_
  refine az_ctx (h' := (upd2 h.1 t (wr j) (iB x), h.2)) (pc1 := pc + 1) C0 hls hx t1 t2 ha.2 z oq ?_ rfl (fun t' q => entS_upd q) kk
  show va_at _ _ (_, ent Γ _ t) H1
  rw [ent_row ha.1]
  show H1[_]? = some (arrV _ _ (fun q : Nat => Value.int (Int32.ofInt (upd2 h.1 t (wr j) (iB x) t q))))
  rw [e, upd2_row h0 (fun z => Value.int (Int32.ofInt z)), show Int32.ofInt (iB x) = (Int32.ofInt x).toInt8.toInt32 from Int32.ofInt_toInt _]
  exact congrArg some (arrV_store _ _ _ _ _)
theorem aw_zast {t j x : Int} {n : Nat} (dg : decode M.2.1 pc = .ok (.bastore, 1)) (ha : isA h t 2 n) (h0 : 0 ≤ wr j) (h1 : wr j < n) (hx1 : narrow .boolean (.int (Int32.ofInt x)) = .int (Int32.ofInt x)) (kk : AW Γ l M d b (pc + 1) L S (upd2 h.1 t (wr j) x, h.2) K) : AW Γ l M d b pc L (vI x :: vI j :: vR t :: S) h K := by
  intro p e R s m args below meth c H locs cells slots mc ms ls C0 hls hx
  obtain ⟨t1, t2⟩ := isA_lt (by omega) ha
  obtain ⟨q0, hq0⟩ := wl_get (Γ := Γ) (h := h) t1 t2 ha.2
  rw [ent_row ha.1] at hq0
  obtain ⟨hx0, hb, hml, hown, hts, hlk, hret, hst, hS, hv, hR, hrest⟩ := id C0
  show W p l e R s m args below meth c H locs cells slots _ (F0 m pc ls (.int (Int32.ofInt x) :: .int (Int32.ofInt j) :: va_rf (rf Γ t) :: S.map (conc Γ)))
  rw [rf_ad t1]
  refine W.zast hx0 hb (hR.1 q0 _ hq0) ((hS.1.2 2 _ rfl).1 n (fun j => .int (Int32.ofInt (h.1 t j)))) (fun q => by cases q) (by show ¬ (_ ∨ (arrV _ _ _).slots.size ≤ _); rw [arrV_size]; exact vp_in_wr h0 h1) rfl rfl dg fun H1 e z oq => ?_
  refine az_ctx (h' := (upd2 h.1 t (wr j) x, h.2)) (pc1 := pc + 1) C0 hls hx t1 t2 ha.2 z oq ?_ rfl (fun t' q => entS_upd q) kk
  show va_at _ _ (_, ent Γ _ t) H1
  rw [ent_row ha.1]
  show H1[_]? = some (arrV _ _ (fun q : Nat => Value.int (Int32.ofInt (upd2 h.1 t (wr j) x t q))))
  rw [e, upd2_row h0 (fun z => Value.int (Int32.ofInt z)), hx1]
  exact congrArg some (arrV_store _ _ _ _ _)
theorem aw_last {t j x : Int} {n : Nat} (dg : decode M.2.1 pc = .ok (.lastore, 1)) (ha : isA h t 3 n) (h0 : 0 ≤ wr j) (h1 : wr j < n) (kk : AW Γ l M d b (pc + 1) L S (upd2 h.1 t (wr j) x, h.2) K) : AW Γ l M d b pc L (vL x :: vI j :: vR t :: S) h K := by
  intro p e R s m args below meth c H locs cells slots mc ms ls C0 hls hx
  obtain ⟨t1, t2⟩ := isA_lt (by omega) ha
  obtain ⟨q0, hq0⟩ := wl_get (Γ := Γ) (h := h) t1 t2 ha.2
  rw [ent_row ha.1] at hq0
  obtain ⟨hx0, hb, hml, hown, hts, hlk, hret, hst, hS, hv, hR, hrest⟩ := id C0
  show W p l e R s m args below meth c H locs cells slots _ (F0 m pc ls (.long (Int64.ofInt x) :: .int (Int32.ofInt j) :: va_rf (rf Γ t) :: S.map (conc Γ)))
  rw [rf_ad t1]
  refine W.last hx0 hb (hR.1 q0 _ hq0) ((hS.1.2 3 _ rfl).1 n (fun j => .long (Int64.ofInt (h.1 t j)))) (fun q => by cases q) (by show ¬ (_ ∨ (arrV _ _ _).slots.size ≤ _); rw [arrV_size]; exact vp_in_wr h0 h1) rfl rfl dg fun H1 e z oq => ?_
  refine az_ctx (h' := (upd2 h.1 t (wr j) x, h.2)) (pc1 := pc + 1) C0 hls hx t1 t2 ha.2 z oq ?_ rfl (fun t' q => entS_upd q) kk
  show va_at _ _ (_, ent Γ _ t) H1
  rw [ent_row ha.1]
  show H1[_]? = some (arrV _ _ (fun q : Nat => Value.long (Int64.ofInt (upd2 h.1 t (wr j) x t q))))
  rw [e, upd2_row h0 (fun z => Value.long (Int64.ofInt z))]
  exact congrArg some (arrV_store _ _ _ _ _)
end AMA
