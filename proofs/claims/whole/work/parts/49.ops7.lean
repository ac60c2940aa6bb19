-- STOP
theorem alive_c {k : Nat} {μ : Mu} {Q : Int32 → Mu → Prop} (h1 : ((cT μ k).1 0 7 = 1 ∨ (cT μ k).1 0 7 = 2) → Q 1 μ) (h0 : ¬ ((cT μ k).1 0 7 = 1 ∨ (cT μ k).1 0 7 = 2) → Q 0 μ) : wp_Ten_isAlive k μ Q := by
  have e : μ.1 (23 + 17 * k) 7 = (cT μ k).1 0 7 := cTF (by omega) (by omega)
  unfold wp_Ten_isAlive
  rw [e]
  exact ⟨fun h => h1 (Or.inl h), fun h => ⟨fun h2 => h0 (fun q => q.elim h h2), fun h2 => h1 (Or.inr h2)⟩⟩
theorem alive_r {k : Nat} {v : Int32} {μ : Mu} {Q : Int32 → Mu → Prop} (hk : k < 4) (e : μ.2.1 106 k = v) (h1 : (v = 1 ∨ v = 2) → Q 1 μ) (h0 : ¬ (v = 1 ∨ v = 2) → Q 0 μ) : wp_Mod_alive (nI k) μ Q := by
  unfold wp_Mod_alive
  rw [cl4 hk, e]
  exact ⟨in4 hk, fun h => h1 (Or.inl h), fun h => ⟨in4 hk, fun h2 => h0 (fun q => q.elim h h2), fun h2 => h1 (Or.inr h2)⟩⟩
theorem st_r {t k : Nat} {μ μr : Mu} (hr : R2X t μ μr) (hk : k < 4) : μr.2.1 106 k = (cT μ k).1 0 7 := by
  rw [rVs (k := 106) rfl, ← (hr.2.1 k hk).2.1.1.1]; rfl
/-- another tenant ends, in the midst of t's instruction -/
theorem end_X {c t k : Nat} {e : Int32} {μ : Mu} (hi : InvX c t μ) (hk : k < 4) (hkt : k ≠ t) (e0 : ¬ e = 0) (e1 : ¬ e = 1) (e2 : ¬ e = 2) : oneC k (endB (cT μ k) e (cG μ 4)) μ (endM μ k e) ∧ InvX c t (endM μ k e) ∧
    ∀ μr, R2X t μ μr → ∃ μr', (∀ Q : Mu → Prop, Q μr' → wp_Mod_end (nI k) e μr Q) ∧ oneR k μr μr' ∧ R2X t (endM μ k e) μr' := by
  have oo := endM_one (μ := μ) (t := k) (e := e) hk
  have hIX : InvX c t (endM μ k e) := hi.one hk oo (fun sc _ _ hI => IT_end hI e0) (fun _ _ => ⟨fun h => absurd h (fun q => q.elim e1 e2), fun _ => ⟨rfl, rfl, rfl⟩⟩) rfl
  refine ⟨oo, hIX, fun μr hr => ?_⟩
  obtain ⟨μr', a1, a2, a3, a4⟩ := end_ref (k := k) (e := e) (μ := μr) hk
  have hg := a3 _ ((cT μ k).1 6 2) (hr.2.1 k hk).2.1
  rw [bF_self rfl, ← hr.1.2.2] at hg
  have hT := (hr.2.1 k hk).1 hkt
  refine ⟨μr', a1, a2, hr.one hi hk oo a2 ⟨fun _ => hg.to ?_, hg⟩ shSame_end⟩
  show (cT μ k).1 0 9 = (rV μr' k).1 108
  rw [← rVs (k := 108) rfl, a4, rVs (k := 108) rfl]
  exact hT.1.2.2.1
theorem op_24 {c t d k : Nat} {μ : Mu} (h : Ctx c t d μ) (h6 : d < 6) (hk : k < 4) : OpOut c t (false :: tys ((cT μ t).2.1 8) d) ((cT μ t).1 0 8) ((cT μ t).1 0 9) μ (wp_Host_stopOther t (nI k)) (wp_Mod_traffic (nI t) (nI 24) (nI k)) := by
  obtain ⟨hi, ht, hs1, hd, -⟩ := id h
  have hdc : μ.1 (29 + 17 * t) 2 = nI d := by rw [dep_c]; exact hd
  obtain ⟨v, hv, ev, er⟩ := may_v h hk
  have hix : ((4 : Int32) * nI t + nI k).toNatClampNeg = 4 * t + k := ix_cl (w := 4) ht hk (by omega)
  have way : ∀ {μr : Mu} {Q : Int32 → Mu → Prop}, wp_Mod_stop (nI t) (nI k) μr (fun x24 μ23 => Q x24 μ23) → wp_Mod_traffic (nI t) (nI 24) (nI k) μr Q := fun hq => ⟨fun _ => ⟨fun _ => ⟨fun hh => absurd rfl hh, fun _ => hq⟩, fun hh => absurd hh (by decide)⟩, fun hh => absurd hh (by decide)⟩
  by_cases hm : nI v &&& (4 : Int32) = 0
  · refine OpOut.fail (e := 10) h (by decide) (by decide) (by decide) ⟨μ, (cT μ t).1 6 2, by rw [bF_self rfl]; exact oneC.rf, fun Q hq => may_ok hk ev ⟨fun _ => ⟨fun hh => absurd rfl hh, fun _ => end_cls hq⟩, fun hh => absurd hm hh⟩⟩ (fun μr hr2 Q hq => way ⟨ix_le (w := 4) ht hk rfl (by omega), fun hh => ?_, fun _ => hq⟩)
    rw [hix, er μr hr2] at hh; exact absurd hh ((may_dec v hv).2.2.mp hm)
  have rw1 : ∀ {μr : Mu} {Q : Int32 → Mu → Prop}, R2X t μ μr → wp_Mod_alive (nI k) μr (fun x3 μ2 => (((x3 = 0) → wp_Mod_stop_j33 (nI t) x3 μ2  (fun x24 μ23 => Q x24 μ23)) ∧ ((¬ x3 = 0) → wp_Mod_end (nI k) (4 : Int32) μ2 (fun μ8 => wp_Mod_stop_j33 (nI t) x3 μ8  (fun x24 μ23 => Q x24 μ23))))) → wp_Mod_traffic (nI t) (nI 24) (nI k) μr Q := fun {μr Q} hr2 hq => way ⟨ix_le (w := 4) ht hk rfl (by omega), fun _ => hq, fun hh => by
    rw [hix, er μr hr2] at hh; exact absurd ((may_dec v hv).2.2.mpr hh) hm⟩
  have cw : ∀ {Q : Mu → Prop}, wp_Ten_isAlive k μ (fun x6 μ5 => (((x6 = 0) → wp_Ten_isAlive t μ5 (fun x8 μ7 => (((x8 = 0) → Q μ7) ∧ ((¬ x8 = 0) → wp_Stk_putTruth t x6 μ7 (fun μ9 => Q μ9))))) ∧ ((¬ x6 = 0) → wp_Host_end k (4 : Int32) μ5 (fun μ10 => wp_Ten_isAlive t μ10 (fun x12 μ11 => (((x12 = 0) → Q μ11) ∧ ((¬ x12 = 0) → wp_Stk_putTruth t x6 μ11 (fun μ13 => Q μ13)))))))) → wp_Host_stopOther t (nI k) μ Q := fun {Q} hq => may_ok hk ev ⟨fun hh => absurd hh hm, fun _ => ⟨fun _ => ⟨in4 hk, by rw [cl4 hk]; exact hq⟩, fun hh => absurd hh z1⟩⟩
  have alv : ∀ {μ' : Mu} {Q : Int32 → Mu → Prop}, (cT μ' t).1 0 7 = 1 → Q 1 μ' → wp_Ten_isAlive t μ' Q := fun hs hq => alive_c (fun _ => hq) (fun hh => absurd (Or.inl hs) hh)
  by_cases hkt : k = t
  · subst hkt
    -- it stops itself
    refine OpOut.one hi ht ⟨endM μ k 4, endB (cT μ k) 4 (cG μ 4), fun Q hq => cw (alv hs1 ⟨fun hh => absurd hh z1, fun _ => end_cls (alive_c (fun hh => ?_) (fun _ => ⟨fun _ => hq, fun hh => absurd rfl hh⟩))⟩), endM_one ht, IT_end (hi.it ht) (by decide), rfl, shSame_end, Fin_end (by decide) (by decide), fun μr hr2 _ => ?_⟩
    · rw [(endM_one (μ := μ) (e := 4) ht).2.2.2.1] at hh
      exact absurd hh (show ¬ ((4 : Int32) = 1 ∨ (4 : Int32) = 2) by decide)
    · obtain ⟨μ2, a1, a2, a3, a4⟩ := end_ref (k := k) (e := 4) (μ := μr) hk
      have hg := a3 _ ((cT μ k).1 6 2) (hr2.2.1 k hk).2.1
      rw [bF_self rfl, ← hr2.1.2.2] at hg
      refine ⟨μ2, endR_0 fun Q hq => rw1 hr2 (alive_r hk (st_r hr2 hk) (fun _ => ⟨fun hh => absurd hh z1, fun _ => a1 _ (alive_r hk (v := 4) ?_ (fun hh => absurd hh (by decide)) (fun _ => ⟨fun _ => hq, fun hh => absurd rfl hh⟩))⟩) (fun hh => absurd (Or.inl hs1) hh)), a2, hg, by rw [a4]⟩
      rw [rVs (k := 106) rfl]
      exact hg.1.1.symm
  by_cases ha : (cT μ k).1 0 7 = 1 ∨ (cT μ k).1 0 7 = 2
  · obtain ⟨oo, hIX, hRX⟩ := end_X (e := 4) hi hk hkt (by decide) (by decide) (by decide)
    obtain ⟨hC, eT⟩ := Ctx_other h hkt oo hIX
    have main := OpOut.push (wc := fun μ' Q => wp_Stk_putTruth t 1 μ' (fun μ13 => Q μ13)) (wr := fun μr Q => wp_Mod_become (nI t) (0 : Int32) (1 : Int32) μr (fun μ7 => Q (0 : Int32) μ7)) (e := d) (v := 1) (b := 0) (l := false :: tys ((cT μ t).2.1 8) d) hC (Nat.le_refl _) h6 (Or.inl rfl) ⟨pushM (endM μ k 4) t d 1 0, by rw [popB_self hC.2.2.2.1]; exact pushM_one ht, fun Q hq => truth_ok (by rw [dep_c]; exact hC.2.2.2.1) h6 (Or.inr rfl) hq⟩ (by rw [eT]; rfl) (fun μr hr => ⟨1, rfl, fun Q hq => become_ok (n := 0) ht (dep_r hC hr) (by omega) (by omega) (by rw [Nat.sub_zero]; exact hq)⟩)
    rw [eT] at main
    refine OpOut.pre (μ := μ) main oo.2.2.2.2 oo.1 oo.2.1 (fun Q hq => cw (alive_c (fun _ => ⟨fun hh => absurd hh z1, fun _ => end_cls (alv hC.2.2.1 ⟨fun hh => absurd hh z1, fun _ => hq⟩)⟩) (fun hh => absurd ha hh))) (fun μr hr hs => ?_)
    obtain ⟨μr', b1, b2, b3⟩ := hRX μr hr
    exact ⟨μr', fun Q hq => rw1 hr (alive_r hk (st_r hr hk) (fun _ => ⟨fun hh => absurd hh z1, fun _ => b1 _ (alive_r ht (st_r b3 ht) (fun _ => ⟨fun hh => absurd hh z1, fun _ => ⟨fun hh => absurd hh z1, fun _ => hq⟩⟩) (fun hh => absurd (Or.inl hC.2.2.1) hh))⟩) (fun hh => absurd ha hh)), b2.2.2.2.2, b3, Hsh_other ht hkt oo b2 hs, pos_other ht hkt b2⟩
  · exact OpOut.push (e := d) (v := 0) (b := 0) h (Nat.le_refl _) h6 (Or.inl rfl) ⟨pushM μ t d 0 0, by rw [popB_self hd]; exact pushM_one ht, fun Q hq => cw (alive_c (fun hh => absurd hh ha) (fun _ => ⟨fun _ => alv hs1 ⟨fun hh => absurd hh z1, fun _ => truth_ok hdc h6 (Or.inl rfl) hq⟩, fun hh => absurd rfl hh⟩))⟩ rfl (fun μr hr => ⟨0, rfl, fun Q hq => rw1 hr (alive_r hk (st_r hr hk) (fun hh => absurd hh ha) (fun _ => ⟨fun _ => alive_r ht (st_r hr ht) (fun _ => ⟨fun hh => absurd hh z1, fun _ => ⟨fun _ => become_ok (n := 0) ht (dep_r h hr) (by omega) (by omega) (by rw [Nat.sub_zero]; exact hq), fun hh => absurd rfl hh⟩⟩) (fun hh => absurd (Or.inl hs1) hh), fun hh => absurd rfl hh⟩))⟩)
/-! make, in both. -/
def mkM (μ : Mu) (k c0 : Nat) (v : Int32) : Mu := shF (setJ μ (24 + 17 * k) (μ.2.2 (24 + 17 * k) ||| one (9 + c0))) k (9 + c0) v 0 0
def mkB (B : TB) (c0 : Nat) (v : Int32) : TB := bA (bA (bA (bJ B (B.2.2 ||| one (9 + c0))) 2 (9 + c0) v) 3 (9 + c0) 0) 4 (9 + c0) 0
def mkR (μ : Mu) (k c0 : Nat) (v : Int32) : Mu := setA (setA (setA (setA μ 97 (24 * k + c0) 1) 98 (24 * k + c0) v) 99 (24 * k + c0) (-1)) 100 (24 * k + c0) (-1)
def mkS (S : PB) (c0 : Nat) (v : Int32) : PB := pA (pA (pA (pA S 97 c0 1) 98 c0 v) 99 c0 (-1)) 100 c0 (-1)
theorem mkM_one {μ : Mu} {k c0 : Nat} {v : Int32} (hk : k < 4) : oneC k (mkB (cT μ k) c0 v) μ (mkM μ k c0 v) := by
  have o0 := oneC_J (μ := μ) (t := k) (v := μ.2.2 (24 + 17 * k) ||| one (9 + c0))
  have o1 := oneC_A (μ := setJ μ (24 + 17 * k) (μ.2.2 (24 + 17 * k) ||| one (9 + c0))) (k := 25) (j := 9 + c0) (v := v) hk (by omega) (by omega)
  rw [o0.2.2.2.1] at o1
  have o2 := oneC_A (μ := setA (setJ μ (24 + 17 * k) (μ.2.2 (24 + 17 * k) ||| one (9 + c0))) (25 + 17 * k) (9 + c0) v) (k := 26) (j := 9 + c0) (v := 0) hk (by omega) (by omega)
  rw [o1.2.2.2.1] at o2
  have o3 := oneC_A (μ := setA (setA (setJ μ (24 + 17 * k) (μ.2.2 (24 + 17 * k) ||| one (9 + c0))) (25 + 17 * k) (9 + c0) v) (26 + 17 * k) (9 + c0) 0) (k := 27) (j := 9 + c0) (v := 0) hk (by omega) (by omega)
  rw [o2.2.2.2.1] at o3
  exact ((o0.tr o1).tr o2).tr o3
theorem mkR_one {μ : Mu} {k c0 : Nat} {v : Int32} (hk : k < 4) (h0 : c0 < 24) : oneR k μ (mkR μ k c0 v) := by
  have h : ∀ (ν : Mu) (a : Nat) (v : Int32), (a = 97 ∨ a = 98 ∨ a = 99 ∨ a = 100) → oneR k ν (setA ν a (24 * k + c0) v) := by
    intro ν a v ha
    rcases ha with rfl | rfl | rfl | rfl
    · exact oneR_a (k := 97) hk rfl h0 (by decide) (by omega)
    · exact oneR_a (k := 98) hk rfl h0 (by decide) (by omega)
    · exact oneR_a (k := 99) hk rfl h0 (by decide) (by omega)
    · exact oneR_a (k := 100) hk rfl h0 (by decide) (by omega)
  exact (((h _ _ _ (by omega)).tr (h _ _ _ (by omega))).tr (h _ _ _ (by omega))).tr (h _ _ _ (by omega))
theorem mkR_V {μ : Mu} {k c0 : Nat} {v : Int32} (h0 : c0 < 24) : rV (mkR μ k c0 v) k = mkS (rV μ k) c0 v := by
  have h : ∀ (ν : Mu) (a : Nat) (v : Int32), (a = 97 ∨ a = 98 ∨ a = 99 ∨ a = 100) → rV (setA ν a (24 * k + c0) v) k = pA (rV ν k) a c0 v := by
    intro ν a v ha
    rcases ha with rfl | rfl | rfl | rfl
    · exact rV_a (k := 97) rfl h0
    · exact rV_a (k := 98) rfl h0
    · exact rV_a (k := 99) rfl h0
    · exact rV_a (k := 100) rfl h0
  unfold mkR mkS
  rw [h _ _ _ (by omega), h _ _ _ (by omega), h _ _ _ (by omega), h _ _ _ (by omega)]
theorem mkR_o {μ : Mu} {k c0 a : Nat} {v : Int32} (h : a < 97 ∨ 100 < a) : (mkR μ k c0 v).2.1 a = μ.2.1 a := (a_o (by omega)).trans ((a_o (by omega)).trans ((a_o (by omega)).trans (a_o (by omega))))
theorem make_c {μ : Mu} {k c0 : Nat} {v : Int32} {Q : Int32 → Mu → Prop} (h0 : c0 < 24) (hf : tb (μ.2.2 (24 + 17 * k)) (9 + c0) = false) (hl : ∀ c, c < c0 → tb (μ.2.2 (24 + 17 * k)) (9 + c) = true) (hq : Q (nI (9 + c0)) (mkM μ k c0 v)) : wp_Heap_make k v μ Q := by
  have main : ∀ (m c : Nat), c + m = c0 → ∀ (K0 K1 : Int32 → Mu → Prop), K0 (nI (9 + c0)) μ → wp_Heap_make_3 k v K0 K1 Q (m + 1) (nI (9 + c)) μ := by
    intro m
    induction m with
    | zero =>
      intro c hc K0 K1 hK
      obtain rfl : c = c0 := by omega
      exact ⟨fun h => absurd h (nI_ge (b := 33) (by omega) (by omega)), fun _ => isin_no (by omega) hf ⟨fun h => absurd rfl h, fun _ => hK⟩⟩
    | succ m ih =>
      intro c hc K0 K1 hK
      refine ⟨fun h => absurd h (nI_ge (b := 33) (by omega) (by omega)), fun _ => isin_yes (by omega) (hl c (by omega)) ⟨fun _ => ?_, fun h => absurd h z1⟩⟩
      rw [nI_1]
      exact ih (c + 1) (by omega) K0 K1 hK
  exact ⟨c0 + 1, main c0 0 (by omega) _ _ (fun μ5 e5 => by rw [e5]; exact heap_fill (by omega) hq)⟩
theorem make_r {μ : Mu} {k c0 : Nat} {v : Int32} {Q : Int32 → Mu → Prop} (hk : k < 4) (h0 : c0 < 24) (hf : μ.2.1 97 (24 * k + c0) = 0) (hl : ∀ c, c < c0 → ¬ μ.2.1 97 (24 * k + c) = 0) (hq : Q (nI (24 * k + c0)) (mkR μ k c0 v)) : wp_Mod_make (nI k) v μ Q := by
  have h23 : (24 : Int32) * nI k + (23 : Int32) = nI (24 * k + 23) := by rw [show (24 : Int32) = nI 24 from rfl, show (23 : Int32) = nI 23 from rfl, pk_mul, nI_add]
  have main : ∀ (m c : Nat), c + m = c0 → ∀ (K0 : Int32 → Mu → Prop), K0 (nI (24 * k + c0)) μ → wp_Mod_make_5 (nI k) v K0 Q (m + 1) (nI (24 * k + c)) μ := by
    intro m
    induction m with
    | zero =>
      intro c hc K0 hK
      obtain rfl : c = c0 := by omega
      refine ⟨fun _ => hK, fun _ => ⟨vp_in_nI (by omega) (by decide), fun _ => hK, fun h => ?_⟩⟩
      rw [nI_clamp (by omega)] at h; exact absurd hf h
    | succ m ih =>
      intro c hc K0 hK
      refine ⟨fun h => ?_, fun _ => ⟨vp_in_nI (by omega) (by decide), fun h => ?_, fun _ => ?_⟩⟩
      · rw [h23] at h; exact absurd h (nI_ge (by omega) (by omega))
      · rw [nI_clamp (by omega)] at h; exact absurd h (hl c (by omega))
      · rw [nI_1]; exact ih (c + 1) (by omega) K0 hK
  refine ⟨c0 + 1, ?_⟩
  rw [show (24 : Int32) * nI k = nI (24 * k + 0) by rw [show (24 : Int32) = nI 24 from rfl, pk_mul, Nat.add_zero]]
  refine main c0 0 (by omega) _ ?_
  have hc : (nI (24 * k + c0)).toNatClampNeg = 24 * k + c0 := nI_clamp (by omega)
  have hin : vp_in (nI (24 * k + c0)) 104 := vp_in_nI (by omega) (by decide)
  refine ⟨hin, fun μ5 e5 => ⟨hin, fun μ7 e7 => ⟨hin, fun μ9 e9 => ⟨hin, fun μ11 e11 => ?_⟩⟩⟩⟩
  rw [hc] at e5 e7 e9 e11
  rw [e11, e9, e7, e5]; exact hq
theorem mk_bit {m : Int64} {c0 r : Nat} (h0 : c0 < 24) : tb (m ||| one (9 + c0)) r = true ↔ tb m r = true ∨ r = 9 + c0 := or_one (by omega)
theorem okR_up {sc r c0 : Nat} {m : Int64} (h0 : c0 < 24) (h : okR sc m r) : okR sc (m ||| one (9 + c0)) r := by
  rcases h with h | h | h
  · exact Or.inl h
  · exact Or.inr (Or.inl h)
  · exact Or.inr (Or.inr ⟨h.1, h.2.1, (mk_bit h0).mpr (Or.inl h.2.2)⟩)
theorem isR_up {sc c0 : Nat} {m : Int64} {v : Int32} (h0 : c0 < 24) (h : isR sc m v) : isR sc (m ||| one (9 + c0)) v := by
  obtain ⟨r, hr, e⟩ := h
  exact ⟨r, okR_up h0 hr, e⟩
theorem IT_make {sc c0 : Nat} {B : TB} {v : Int32} (h8 : sc ≤ 8) (h0 : c0 < 24) (hf : tb B.2.2 (9 + c0) = false) (hI : IT sc B) : IT sc (mkB B c0 v) := by
  obtain ⟨a1, a2, a3, a4, a5, a6, a7, a8, ⟨a9, a10⟩, a11⟩ := hI
  have r3 : ∀ x, (mkB B c0 v).2.1 3 x = if x = 9 + c0 then 0 else B.2.1 3 x := fun x => by
    show (if 3 = 4 ∧ x = 9 + c0 then 0 else if 3 = 3 ∧ x = 9 + c0 then 0 else if 3 = 2 ∧ x = 9 + c0 then v else B.2.1 3 x) = _
    by_cases h : x = 9 + c0
    · rw [if_neg (by omega), if_pos ⟨rfl, h⟩, if_pos h]
    · rw [if_neg (by omega), if_neg (by omega), if_neg (by omega), if_neg h]
  have r4 : ∀ x, (mkB B c0 v).2.1 4 x = if x = 9 + c0 then 0 else B.2.1 4 x := fun x => by
    show (if 4 = 4 ∧ x = 9 + c0 then 0 else if 4 = 3 ∧ x = 9 + c0 then 0 else if 4 = 2 ∧ x = 9 + c0 then v else B.2.1 4 x) = _
    by_cases h : x = 9 + c0
    · rw [if_pos ⟨rfl, h⟩, if_pos h]
    · rw [if_neg (by omega), if_neg (by omega), if_neg (by omega), if_neg h]
  refine ⟨a1, a2, a3, a4, fun i hi => ?_, ⟨isR_up h0 a6.1, isR_up h0 a6.2⟩, fun i hi => isR_up h0 (a7 i hi), fun x hx => ?_, ⟨a9, fun k hk => ?_⟩, a11⟩
  · rcases a5 i hi with h | h
    · exact Or.inl h
    · exact Or.inr ⟨h.1, isR_up h0 h.2⟩
  · have hx : tb (B.2.2 ||| one (9 + c0)) x = true := hx
    rw [r3, r4]
    rcases (mk_bit h0).mp hx with h | h
    · obtain ⟨q1, q2, q3, q4⟩ := a8 x h
      have hne : x ≠ 9 + c0 := fun e => by rw [e, hf] at h; cases h
      rw [if_neg hne, if_neg hne]
      exact ⟨q1, q2, isR_up h0 q3, isR_up h0 q4⟩
    · rw [if_pos h, if_pos h]
      exact ⟨by omega, by omega, null_R, null_R⟩
  · rw [r3, r4, if_neg (by omega), if_neg (by omega)]; exact a10 k hk
theorem RT_make {t c0 : Nat} {B : TB} {S : PB} {v : Int32} (h0 : c0 < 24) (hR : RT t B S) : RT t (mkB B c0 v) (mkS S c0 v) := by
  obtain ⟨x1, x2, x3, x4, x5, x6, x7, x8, x9, x10⟩ := hR
  refine ⟨x1, x2, x3, x4, x5, x6, x7, x8, fun c hc => ?_, fun c hc hb => ?_⟩
  · show (if 97 = 97 ∧ c = c0 then 1 else S.2 97 c) = if tb (B.2.2 ||| one (9 + c0)) (9 + c) = true then 1 else 0
    by_cases h : c = c0
    · rw [if_pos ⟨rfl, h⟩, if_pos ((mk_bit h0).mpr (Or.inr (by omega)))]
    · rw [if_neg (fun q => h q.2), x9 c hc]
      have : (tb (B.2.2 ||| one (9 + c0)) (9 + c) = true) ↔ (tb B.2.2 (9 + c) = true) := by
        rw [mk_bit h0]
        exact ⟨fun q => q.elim id (fun e => by omega), Or.inl⟩
      by_cases hb : tb B.2.2 (9 + c) = true
      · rw [if_pos hb, if_pos (this.mpr hb)]
      · rw [if_neg hb, if_neg (fun q => hb (this.mp q))]
  · have hb : tb (B.2.2 ||| one (9 + c0)) (9 + c) = true := hb
    show (if 98 = 98 ∧ c = c0 then v else S.2 98 c) = (if 2 = 2 ∧ 9 + c = 9 + c0 then v else B.2.1 2 (9 + c)) ∧ (if 99 = 99 ∧ c = c0 then (-1) else S.2 99 c) = enc t (if 3 = 3 ∧ 9 + c = 9 + c0 then 0 else B.2.1 3 (9 + c)).toNatClampNeg ∧ (if 100 = 100 ∧ c = c0 then (-1) else S.2 100 c) = enc t (if 4 = 4 ∧ 9 + c = 9 + c0 then 0 else B.2.1 4 (9 + c)).toNatClampNeg
    by_cases h : c = c0
    · rw [if_pos (c := 98 = 98 ∧ c = c0) ⟨rfl, h⟩, if_pos (c := 2 = 2 ∧ 9 + c = 9 + c0) ⟨rfl, by omega⟩, if_pos (c := 99 = 99 ∧ c = c0) ⟨rfl, h⟩, if_pos (c := 3 = 3 ∧ 9 + c = 9 + c0) ⟨rfl, by omega⟩, if_pos (c := 100 = 100 ∧ c = c0) ⟨rfl, h⟩, if_pos (c := 4 = 4 ∧ 9 + c = 9 + c0) ⟨rfl, by omega⟩]
      exact ⟨rfl, rfl, rfl⟩
    · rw [if_neg (c := 98 = 98 ∧ c = c0) (fun q => h q.2), if_neg (c := 2 = 2 ∧ 9 + c = 9 + c0) (by omega), if_neg (c := 99 = 99 ∧ c = c0) (fun q => h q.2), if_neg (c := 3 = 3 ∧ 9 + c = 9 + c0) (by omega), if_neg (c := 100 = 100 ∧ c = c0) (fun q => h q.2), if_neg (c := 4 = 4 ∧ 9 + c = 9 + c0) (by omega)]
      exact x10 c hc (((mk_bit h0).mp hb).elim id (fun e => by omega))
theorem cnt_all {f : Nat → Bool} : ∀ {n : Nat}, (∀ c, c < n → f c = true) → cnt f n = n
  | 0, _ => rfl
  | n + 1, h => by
    unfold cnt
    rw [cnt_all (fun c hc => h c (by omega)), if_pos (h n (by omega))]
/-- there is a least free cell -/
theorem free_ex {f : Nat → Bool} (h : cnt f 24 < 24) : ∃ c0, c0 < 24 ∧ f c0 = false ∧ ∀ c, c < c0 → f c = true := by
  have hex : ∃ c, c < 24 ∧ f c = false := Classical.byContradiction fun hno => by
    have := cnt_all (f := f) (n := 24) (fun c hc => by
      cases hb : f c with
      | true => rfl
      | false => exact absurd ⟨c, hc, hb⟩ hno)
    omega
  obtain ⟨c0, ⟨h1, h2⟩, h3⟩ := pk_least _ hex
  refine ⟨c0, h1, h2, fun c hc => ?_⟩
  cases hb : f c with
  | true => rfl
  | false => exact absurd ⟨by omega, hb⟩ (h3 c hc)
