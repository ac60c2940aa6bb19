-- LOAD
theorem enc_of {t r : Nat} (h : r < 33) : enc t (nI r).toNatClampNeg = enc t r := by rw [nI_clamp (by omega)]
theorem op_7 {c t d a : Nat} {μ : Mu} (h : Ctx c t d μ) (h6 : d < 6) (ha : a ≤ 3) : OpOut c t (decide (2 ≤ a) :: tys ((cT μ t).2.1 8) d) ((cT μ t).1 0 8) ((cT μ t).1 0 9) μ
    (fun μ11 Q => vp_in (nI a) 4 ∧ (((nI a < (2 : Int32)) → wp_Stk_put t (μ11.2.1 (32 + 17 * t) (Int32.toNatClampNeg (nI a))) (0 : Int32) μ11 (fun μ20 => Q μ20)) ∧ ((¬ nI a < (2 : Int32)) → wp_Stk_put t (μ11.2.1 (32 + 17 * t) (Int32.toNatClampNeg (nI a))) (1 : Int32) μ11 (fun μ21 => Q μ21)))) (wp_Mod_plain (nI t) (nI 7) (nI a)) := by
  have hI := h.1.it h.2.1
  have hcl : (nI a).toNatClampNeg = a := nI_clamp (by omega)
  have ea : μ.2.1 (32 + 17 * t) a = (cT μ t).2.1 9 a := cTA (by omega) (by omega)
  have hdc : μ.1 (29 + 17 * t) 2 = nI d := by rw [dep_c]; exact h.2.2.2.1
  have rf : ∀ (b : Int32) (hbv : ∀ μr, R2X t μ μr → μr.2.1 114 (4 * t + a) = if b = 0 then (cT μ t).2.1 9 a else enc t ((cT μ t).2.1 9 a).toNatClampNeg), ∀ μr, R2X t μ μr → ∃ w, (w = if b = 0 then (cT μ t).2.1 9 a else enc t ((cT μ t).2.1 9 a).toNatClampNeg) ∧ ∀ Q : Int32 → Mu → Prop, Q 0 (becM μr t d w) → wp_Mod_plain (nI t) (nI 7) (nI a) μr Q := by
    intro b hbv μr hr
    refine ⟨_, rfl, fun Q hq => plain_a (by decide) (by decide) (by decide) ?_⟩
    refine ⟨fun _ => ⟨fun _ => ⟨fun hh => absurd rfl hh, fun _ => ⟨ix_le (w := 4) h.2.1 (by omega) rfl (by omega), ?_⟩⟩, fun hh => absurd hh (by decide)⟩, fun hh => absurd hh (by decide)⟩
    rw [show ((4 : Int32) * nI t + nI a).toNatClampNeg = 4 * t + a from ix_cl (w := 4) h.2.1 (by omega) (by omega), hbv μr hr]
    exact become_ok (n := 0) h.2.1 (dep_r h hr) (by omega) (by omega) (by rw [Nat.sub_zero]; exact hq)
  have loc : ∀ μr, R2X t μ μr → ∀ i, i < 4 → μr.2.1 114 (4 * t + i) = (rV μr t).2 114 i := fun μr hr i hi => rVa (k := 114) (show i < 4 by omega)
  by_cases h2 : 2 ≤ a
  · have hR : isR (cG μ 3).toNatClampNeg (cT μ t).2.2 ((cT μ t).2.1 9 a) := by
      have : a = 2 ∨ a = 3 := by omega
      rcases this with rfl | rfl
      · exact hI.2.2.2.2.2.1.1
      · exact hI.2.2.2.2.2.1.2
    refine OpOut.push (e := d) (v := (cT μ t).2.1 9 a) (b := 1) h (Nat.le_refl _) h6 (Or.inr ⟨rfl, hR⟩) ⟨pushM μ t d ((cT μ t).2.1 9 a) 1, by rw [popB_self h.2.2.2.1]; exact pushM_one h.2.1, fun Q hq => ⟨vp_in_nI (by omega) (by decide), fun hh => absurd hh (nI_nlt (b := 2) h2 (by omega)), fun _ => ?_⟩⟩ (by rw [decide_eq_true h2]; rfl) (rf 1 fun μr hr => ?_)
    · rw [hcl, ea]; exact put_ok hdc h6 (Or.inr rfl) hq
    · rw [if_neg (by decide), loc μr hr a (by omega)]
      have hl := (hr.2.1 t h.2.1).2.1.2.2.2.1
      have : a = 2 ∨ a = 3 := by omega
      rcases this with rfl | rfl
      · exact hl.2.2.1
      · exact hl.2.2.2
  · refine OpOut.push (e := d) (v := (cT μ t).2.1 9 a) (b := 0) h (Nat.le_refl _) h6 (Or.inl rfl) ⟨pushM μ t d ((cT μ t).2.1 9 a) 0, by rw [popB_self h.2.2.2.1]; exact pushM_one h.2.1, fun Q hq => ⟨vp_in_nI (by omega) (by decide), fun _ => ?_, fun hh => absurd (nI_lt (b := 2) (by omega) (by omega)) hh⟩⟩ (by rw [decide_eq_false h2]; rfl) (rf 0 fun μr hr => ?_)
    · rw [hcl, ea]; exact put_ok hdc h6 (Or.inl rfl) hq
    · rw [if_pos rfl, loc μr hr a (by omega)]
      have hl := (hr.2.1 t h.2.1).2.1.2.2.2.1
      have : a = 0 ∨ a = 1 := by omega
      rcases this with rfl | rfl
      · exact hl.1.symm
      · exact hl.2.1.symm
-- STORE
theorem op_8 {c t e a : Nat} {μ : Mu} (h : Ctx c t (e + 1) μ) (ha : a ≤ 3) (hb : ((cT μ t).2.1 8 e != 0) = decide (2 ≤ a)) : OpOut c t (tys ((cT μ t).2.1 8) e) ((cT μ t).1 0 8) ((cT μ t).1 0 9) μ
    (fun μ11 Q => wp_Stk_take t μ11 (fun x23 μ22 => (vp_in (nI a) 4 ∧ ∀ μ25 : Mu, μ25 = setA μ22 (32 + 17 * t) (Int32.toNatClampNeg (nI a)) x23 → Q μ25))) (wp_Mod_plain (nI t) (nI 8) (nI a)) := by
  obtain ⟨hi, ht, hs1, hd, h6⟩ := id h
  have hI := hi.it ht
  have hcl : (nI a).toNatClampNeg = a := nI_clamp (by omega)
  have hdc : μ.1 (29 + 17 * t) 2 = nI (e + 1) := by rw [dep_c]; exact hd
  have o1 := popM_one (μ := μ) (d := e) ht
  have o2 := oneC_A (μ := popM μ t e) (k := 32) (j := a) (v := (cT μ t).2.1 7 e) ht (by omega) (by omega)
  rw [o1.2.2.2.1] at o2
  have hst := hI.2.2.2.2.1 e (by rw [hd, nI_clamp (by omega)]; omega)
  have hcv : 2 ≤ a → isR (cG μ 3).toNatClampNeg (cT μ t).2.2 ((cT μ t).2.1 7 e) := fun h2 => by
    rw [decide_eq_true h2] at hb
    rcases hst with h0 | h1
    · rw [h0] at hb; cases hb
    · exact h1.2
  refine OpOut.one hi ht ⟨setA (popM μ t e) (32 + 17 * t) a ((cT μ t).2.1 7 e), bA (popB (cT μ t) e) 9 a ((cT μ t).2.1 7 e), fun Q hq => ?_, o1.tr o2, ?_, rfl, fun x k b1 b2 b3 b4 => ?_, ⟨rfl, rfl, Or.inl ⟨hs1, ?_⟩⟩, fun μr hr2 _ => ?_⟩
  · refine take_ok hdc (by omega) ⟨vp_in_nI (by omega) (by decide), fun μ25 e25 => ?_⟩
    rw [e25, hcl, stk_c]; exact hq
  · obtain ⟨a1, a2, a3, a4, a5, a6, a7⟩ := IT_pop (e := e) hI hd h6 (by omega)
    refine ⟨a1, a2, a3, a4, a5, ⟨?_, ?_⟩, a7⟩
    · show isR _ (cT μ t).2.2 (if 9 = 9 ∧ 2 = a then (cT μ t).2.1 7 e else (cT μ t).2.1 9 2)
      by_cases h2 : 2 = a
      · rw [if_pos ⟨rfl, h2⟩]; exact hcv (by omega)
      · rw [if_neg (fun q => h2 q.2)]; exact a6.1
    · show isR _ (cT μ t).2.2 (if 9 = 9 ∧ 3 = a then (cT μ t).2.1 7 e else (cT μ t).2.1 9 3)
      by_cases h2 : 3 = a
      · rw [if_pos ⟨rfl, h2⟩]; exact hcv (by omega)
      · rw [if_neg (fun q => h2 q.2)]; exact a6.2
  · show (if x = 9 ∧ k = a then (cT μ t).2.1 7 e else (cT μ t).2.1 x k) = _
    rw [if_neg (by omega)]
  · show tys ((cT μ t).2.1 8) (nI e).toNatClampNeg = _
    rw [nI_clamp (by omega)]
  · have ev := stk_r h hr2 (show e < e + 1 by omega)
    refine ⟨decM (setA μr 114 (4 * t + a) (μr.2.1 113 (6 * t + e))) t e, endR_0 fun Q hq => plain_a (by decide) (by decide) (by decide) ?_, (oneR_a (k := 114) (i := a) ht rfl (show a < 4 by omega) (by decide) (by omega)).tr decM_one, ?_, by rw [decM_o (by decide), a_o (by decide)]⟩
    · refine ⟨fun _ => ⟨fun _ => ⟨fun _ => ⟨fun _ => ⟨fun _ => ⟨fun _ => ⟨fun hh => absurd hh (by decide), fun _ => ⟨fun hh => absurd rfl hh, fun _ => value_ok (i := 0) ht (dep_r h hr2) (by omega) h6 ⟨ix_le (w := 4) ht (by omega) rfl (by omega), fun μ7 e7 => ⟨in4 ht, in4 ht, fun μ10 e10 => ?_⟩⟩⟩⟩, fun hh => absurd hh (by decide)⟩, fun hh => absurd hh (by decide)⟩, fun hh => absurd hh (by decide)⟩, fun hh => absurd hh (by decide)⟩, fun hh => absurd hh (by decide)⟩, fun hh => absurd hh (by decide)⟩
      rw [show ((4 : Int32) * nI t + nI a).toNatClampNeg = 4 * t + a from ix_cl (w := 4) ht (by omega) (by omega), show e + 1 - 1 - 0 = e by omega] at e7
      have e112 : μ7.2.1 112 t = nI (e + 1) := by rw [e7, a_n (Or.inl (by decide))]; exact dep_r h hr2
      rw [cl4 ht, e112, nI_pred] at e10
      rw [e10, e7]; exact hq
    · rw [decM_V, show rV (setA μr 114 (4 * t + a) (μr.2.1 113 (6 * t + e))) t = pA (rV μr t) 114 a (μr.2.1 113 (6 * t + e)) from rV_a (k := 114) rfl (show a < 4 by omega)]
      obtain ⟨x1, x2, x3, ⟨y1, y2, y3, y4⟩, x5⟩ := RTg_pop (e := e) (hr2.2.1 t ht).2.1 hd h6 (by omega)
      refine ⟨x1, x2, x3, ?_, x5⟩
      have h4 : a = 0 ∨ a = 1 ∨ a = 2 ∨ a = 3 := by omega
      rcases h4 with rfl | rfl | rfl | rfl
      · rw [if_pos (Classical.byContradiction fun q => by simp [q] at hb)] at ev
        exact ⟨ev.symm, y2, y3, y4⟩
      · rw [if_pos (Classical.byContradiction fun q => by simp [q] at hb)] at ev
        exact ⟨y1, ev.symm, y3, y4⟩
      · rw [if_neg (fun q => by simp [q] at hb)] at ev
        exact ⟨y1, y2, ev, y4⟩
      · rw [if_neg (fun q => by simp [q] at hb)] at ev
        exact ⟨y1, y2, y3, ev⟩
-- DUP
theorem op_9 {c t e : Nat} {a : Int32} {μ : Mu} (h : Ctx c t (e + 1) μ) (h6 : e + 1 < 6) : OpOut c t (((cT μ t).2.1 8 e != 0) :: tys ((cT μ t).2.1 8) (e + 1)) ((cT μ t).1 0 8) ((cT μ t).1 0 9) μ (wp_Stk_putTopAgain t) (wp_Mod_plain (nI t) (nI 9) a) := by
  have hI := h.1.it h.2.1
  have hd := h.2.2.2.1
  have hdc : μ.1 (29 + 17 * t) 2 = nI (e + 1) := by rw [dep_c]; exact hd
  have e8 : μ.2.1 (31 + 17 * t) e = (cT μ t).2.1 8 e := cTA (by omega) (by omega)
  have hst := hI.2.2.2.2.1 e (by rw [hd, nI_clamp (by omega)]; omega)
  refine OpOut.push (e := e + 1) (v := (cT μ t).2.1 7 e) (b := (cT μ t).2.1 8 e) h (Nat.le_refl _) h6 hst ⟨pushM μ t (e + 1) ((cT μ t).2.1 7 e) ((cT μ t).2.1 8 e), by rw [popB_self hd]; exact pushM_one h.2.1, fun Q hq => ⟨fun hh => ?_, fun _ => ?_⟩⟩ rfl (fun μr hr => ⟨_, rfl, fun Q hq => plain_a (by decide) (by decide) (by decide) ?_⟩)
  · rw [hdc] at hh; exact absurd hh (nI_nle (by omega) (by omega))
  · rw [hdc, nI_pred, nI_clamp (by omega), e8, stk_c]
    exact ⟨vp_in_nI (by omega) (by decide), vp_in_nI (by omega) (by decide), put_ok hdc h6 (hst.elim Or.inl fun q => Or.inr q.1) hq⟩
  · refine ⟨fun _ => ⟨fun _ => ⟨fun _ => ⟨fun hh => absurd rfl hh, fun _ => value_ok (i := 0) h.2.1 (dep_r h hr) (by omega) h.2.2.2.2 ?_⟩, fun hh => absurd hh (by decide)⟩, fun hh => absurd hh (by decide)⟩, fun hh => absurd hh (by decide)⟩
    rw [show e + 1 - 1 - 0 = e by omega, stk_r h hr (show e < e + 1 by omega)]
    exact become_ok (n := 0) h.2.1 (dep_r h hr) (by omega) (by omega) (by rw [Nat.sub_zero]; exact hq)
-- POP, and what only takes
theorem dec_r {c t e k : Nat} {a : Int32} {μ μr : Mu} (h : Ctx c t (e + 1) μ) (hr : R2X t μ μr) (hk : k = 10 ∨ k = 18) {Q : Int32 → Mu → Prop} (hq : Q 0 (decM μr t e)) : wp_Mod_plain (nI t) (nI k) a μr Q := by
  refine plain_a (by omega) (by omega) (by omega) ⟨fun _ => ⟨fun _ => ⟨fun _ => ⟨fun _ => ⟨fun _ => ⟨fun _ => ⟨fun hh => absurd hh (nek (j := 17) (by omega) (by omega) (by omega)), fun _ => ⟨fun _ => ⟨in4 h.2.1, in4 h.2.1, fun μ3 e3 => ?_⟩, fun hh => absurd hh (nek (j := 8) (by omega) (by omega) (by omega))⟩⟩, fun hh => absurd hh (nek (j := 16) (by omega) (by omega) (by omega))⟩, fun hh => absurd hh (nek (j := 15) (by omega) (by omega) (by omega))⟩, fun hh => absurd hh (nek (j := 9) (by omega) (by omega) (by omega))⟩, fun hh => absurd hh (nek (j := 7) (by omega) (by omega) (by omega))⟩, fun hh => absurd hh (nek (j := 1) (by omega) (by omega) (by omega))⟩, fun hh => absurd hh (nek (j := 14) (by omega) (by omega) (by omega))⟩
  rw [cl4 h.2.1, dep_r h hr, nI_pred] at e3
  rw [e3]; exact hq
theorem OpOut.pop {c t e : Nat} {q : Int32} {μ : Mu} {wc : Mu → (Mu → Prop) → Prop} {wr : Mu → (Int32 → Mu → Prop) → Prop} (h : Ctx c t (e + 1) μ)
    (hc : ∃ μ1, oneC t (bF (popB (cT μ t) e) 0 9 q) μ μ1 ∧ ∀ Q : Mu → Prop, Q μ1 → wc μ Q)
    (hr : ∀ μr, R2X t μ μr → ∀ Q : Int32 → Mu → Prop, Q 0 (decM μr t e) → wr μr Q) : OpOut c t (tys ((cT μ t).2.1 8) e) ((cT μ t).1 0 8) q μ wc wr := by
  obtain ⟨hi, ht, hs1, hd, h6⟩ := id h
  obtain ⟨μ1, o1, w1⟩ := hc
  refine OpOut.one hi ht ⟨μ1, _, w1, o1, ?_, rfl, fun _ _ _ _ _ _ => rfl, ⟨rfl, rfl, Or.inl ⟨hs1, ?_⟩⟩, fun μr hr2 _ => ⟨decM μr t e, endR_0 (hr μr hr2), decM_one, ?_, by rw [decM_o (by decide)]⟩⟩
  · obtain ⟨a1, a2, a3, a4, a5⟩ := IT_pop (e := e) (hi.it ht) hd h6 (by omega)
    exact ⟨a1, a2, a3, fun h0 => absurd (hs1.symm.trans h0) (by decide), a5⟩
  · show tys ((cT μ t).2.1 8) (nI e).toNatClampNeg = _
    rw [nI_clamp (by omega)]
  · rw [decM_V]
    have := RTg_pop (e := e) (hr2.2.1 t ht).2.1 hd h6 (by omega)
    exact this
theorem op_10 {c t e : Nat} {a : Int32} {μ : Mu} (h : Ctx c t (e + 1) μ) : OpOut c t (tys ((cT μ t).2.1 8) e) ((cT μ t).1 0 8) ((cT μ t).1 0 9) μ (fun μ11 Q => wp_Stk_take t μ11 (fun x28 μ27 => Q μ27)) (wp_Mod_plain (nI t) (nI 10) a) := by
  have h6 := h.2.2.2.2
  refine OpOut.pop h ⟨popM μ t e, ?_, fun Q hq => take_ok (by rw [dep_c]; exact h.2.2.2.1) (by omega) hq⟩ (fun μr hr Q hq => dec_r h hr (Or.inl rfl) hq)
  rw [bF_self (B := popB (cT μ t) e) (v := (cT μ t).1 0 9) rfl]; exact popM_one h.2.1
-- ZERO
theorem op_18 {c t e : Nat} {a : Int32} {μ : Mu} (h : Ctx c t (e + 1) μ) : OpOut c t (tys ((cT μ t).2.1 8) e) ((cT μ t).1 0 8) (if (cT μ t).2.1 7 e = 0 then a else (cT μ t).1 0 9) μ (wp_Host_jumpIfZero t a) (wp_Mod_plain (nI t) (nI 18) a) := by
  have h6 := h.2.2.2.2
  have o1 := popM_one (μ := μ) (d := e) h.2.1
  refine OpOut.pop h ?_ (fun μr hr Q hq => dec_r h hr (Or.inr rfl) hq)
  by_cases hz : (cT μ t).2.1 7 e = 0
  · have o2 := oneC_F (μ := popM μ t e) (k := 23) (j := 9) (v := a) h.2.1 (by omega) (by omega)
    rw [o1.2.2.2.1] at o2
    refine ⟨setF (popM μ t e) (23 + 17 * t) 9 a, by rw [if_pos hz]; exact o1.tr o2, fun Q hq => take_ok (by rw [dep_c]; exact h.2.2.2.1) (by omega) ?_⟩
    rw [stk_c]
    exact ⟨fun hh => absurd hz hh, fun _ μ3 e3 => by rw [e3]; exact hq⟩
  · refine ⟨popM μ t e, by rw [if_neg hz, bF_self (B := popB (cT μ t) e) (v := (cT μ t).1 0 9) rfl]; exact o1, fun Q hq => take_ok (by rw [dep_c]; exact h.2.2.2.1) (by omega) ?_⟩
    rw [stk_c]
    exact ⟨fun _ => hq, fun hh => absurd hh hz⟩
-- JUMP
theorem op_17 {c t d : Nat} {a : Int32} {μ : Mu} (h : Ctx c t d μ) : OpOut c t (tys ((cT μ t).2.1 8) d) ((cT μ t).1 0 8) a μ (fun μ11 Q => ∀ μ38 : Mu, μ38 = setF μ11 (23 + 17 * t) 9 a → Q μ38) (wp_Mod_plain (nI t) (nI 17) a) := by
  obtain ⟨hi, ht, hs1, hd, h6⟩ := id h
  refine OpOut.one hi ht ⟨setF μ (23 + 17 * t) 9 a, bF (cT μ t) 0 9 a, fun Q hq μ38 e38 => by rw [e38]; exact hq, oneC_F (k := 23) ht (by omega) (by omega), ?_, rfl, fun _ _ _ _ _ _ => rfl, ⟨rfl, rfl, Or.inl ⟨hs1, ?_⟩⟩, fun μr hr2 _ => ⟨μr, endR_0 fun Q hq => plain_a (by decide) (by decide) (by decide) ⟨fun _ => ⟨fun _ => ⟨fun _ => ⟨fun _ => ⟨fun _ => ⟨fun _ => ⟨fun _ => hq, fun hh => absurd rfl hh⟩, fun hh => absurd hh (by decide)⟩, fun hh => absurd hh (by decide)⟩, fun hh => absurd hh (by decide)⟩, fun hh => absurd hh (by decide)⟩, fun hh => absurd hh (by decide)⟩, fun hh => absurd hh (by decide)⟩, oneR.rf, (hr2.2.1 t ht).2.1, rfl⟩⟩
  · obtain ⟨a1, a2, a3, a4, a5⟩ := hi.it ht
    exact ⟨a1, a2, a3, fun h0 => absurd (hs1.symm.trans h0) (by decide), a5⟩
  · show tys ((cT μ t).2.1 8) ((cT μ t).1 6 2).toNatClampNeg = _
    rw [hd, nI_clamp (by omega)]
-- HALT
theorem op_0 {c t d : Nat} {l : List Bool} {a : Int32} {μ : Mu} (h : Ctx c t d μ) : OpOut c t l ((cT μ t).1 0 8) ((cT μ t).1 0 9) μ (wp_Host_end t 3) (wp_Mod_plain (nI t) (nI 0) a) :=
  OpOut.fail (e := 3) h (by decide) (by decide) (by decide) ⟨μ, (cT μ t).1 6 2, by rw [bF_self rfl]; exact oneC.rf, fun Q hq => end_cls hq⟩ (fun μr hr Q hq => ⟨fun hh => absurd rfl hh, fun _ => hq⟩)
-- NIL
theorem null_R {sc : Nat} {m : Int64} : isR sc m 0 := ⟨0, Or.inl rfl, rfl⟩
theorem op_15 {c t d : Nat} {a : Int32} {μ : Mu} (h : Ctx c t d μ) (h6 : d < 6) : OpOut c t (true :: tys ((cT μ t).2.1 8) d) ((cT μ t).1 0 8) ((cT μ t).1 0 9) μ (wp_Stk_putReference t 0) (wp_Mod_plain (nI t) (nI 15) a) := by
  refine OpOut.push (e := d) (v := 0) (b := 1) h (Nat.le_refl _) h6 (Or.inr ⟨rfl, null_R⟩) ⟨pushM μ t d 0 1, by rw [popB_self h.2.2.2.1]; exact pushM_one h.2.1, fun Q hq => put_ok (by rw [dep_c]; exact h.2.2.2.1) h6 (Or.inr rfl) hq⟩ rfl (fun μr hr => ⟨-1, rfl, fun Q hq => plain_a (by decide) (by decide) (by decide) ?_⟩)
  have := become_ok (n := 0) (v := -1) (Q := fun μ19 => Q 0 μ19) h.2.1 (dep_r h hr) (by omega) (by omega) (by rw [Nat.sub_zero]; exact hq)
  exact ⟨fun _ => ⟨fun _ => ⟨fun _ => ⟨fun _ => ⟨fun hh => absurd rfl hh, fun _ => this⟩, fun hh => absurd hh (by decide)⟩, fun hh => absurd hh (by decide)⟩, fun hh => absurd hh (by decide)⟩, fun hh => absurd hh (by decide)⟩
-- SHARED
theorem op_16 {c t d a : Nat} {μ : Mu} (h : Ctx c t d μ) (h6 : d < 6) (ha : a ≤ 7) : OpOut c t (true :: tys ((cT μ t).2.1 8) d) ((cT μ t).1 0 8) ((cT μ t).1 0 9) μ (fun μ11 Q => (((μ11.1 0 3) ≤ nI a) → wp_Stk_putReference t (0 : Int32) μ11 (fun μ34 => Q μ34)) ∧ ((¬ (μ11.1 0 3) ≤ nI a) → wp_Host_sharedReference (nI a) μ11 (fun x36 μ35 => wp_Stk_putReference t x36 μ35 (fun μ37 => Q μ37)))) (wp_Mod_plain (nI t) (nI 16) (nI a)) := by
  obtain ⟨s8, sce⟩ := h.1.sc
  have hd : μ.1 (29 + 17 * t) 2 = nI d := by rw [dep_c]; exact h.2.2.2.1
  have e3 : μ.1 0 3 = nI (cG μ 3).toNatClampNeg := sce
  have rf : ∀ {μr : Mu} {w : Int32}, R2X t μ μr → ∀ {Q : Int32 → Mu → Prop}, Q 0 (becM μr t d w) → wp_Mod_become (nI t) (0 : Int32) w μr (fun μ12 => Q (0 : Int32) μ12) := fun {μr w} hr {Q} hq => become_ok (n := 0) (v := w) (Q := fun μ19 => Q 0 μ19) h.2.1 (dep_r h hr) (by omega) (by omega) (by rw [Nat.sub_zero]; exact hq)
  have r10 : ∀ μr, R2X t μ μr → μr.1 91 10 = nI (cG μ 3).toNatClampNeg := fun μr hr => hr.1.2.1.symm.trans sce
  have way : ∀ {μr : Mu} {Q : Int32 → Mu → Prop}, ((((μr.1 91 10) ≤ nI a) → wp_Mod_become (nI t) (0 : Int32) (-1 : Int32) μr (fun μ11 => Q (0 : Int32) μ11)) ∧ ((¬ (μr.1 91 10) ≤ nI a) → wp_Mod_become (nI t) (0 : Int32) ((96 : Int32) + nI a) μr (fun μ12 => Q (0 : Int32) μ12))) → wp_Mod_plain (nI t) (nI 16) (nI a) μr Q := fun hq => plain_a (by decide) (by decide) (by decide) ⟨fun _ => ⟨fun _ => ⟨fun _ => ⟨fun _ => ⟨fun _ => ⟨fun hh => absurd rfl hh, fun _ => hq⟩, fun hh => absurd hh (by decide)⟩, fun hh => absurd hh (by decide)⟩, fun hh => absurd hh (by decide)⟩, fun hh => absurd hh (by decide)⟩, fun hh => absurd hh (by decide)⟩
  by_cases hs : (cG μ 3).toNatClampNeg ≤ a
  · have hle : nI (cG μ 3).toNatClampNeg ≤ nI a := nI_le hs (by omega)
    refine OpOut.push (e := d) (v := 0) (b := 1) h (Nat.le_refl _) h6 (Or.inr ⟨rfl, null_R⟩) ⟨pushM μ t d 0 1, by rw [popB_self h.2.2.2.1]; exact pushM_one h.2.1, fun Q hq => ⟨fun _ => put_ok hd h6 (Or.inr rfl) hq, fun hh => ?_⟩⟩ rfl (fun μr hr => ⟨-1, rfl, fun Q hq => way ⟨fun _ => rf hr hq, fun hh => ?_⟩⟩)
    · rw [e3] at hh; exact absurd hle hh
    · rw [r10 μr hr] at hh; exact absurd hle hh
  · have hle : ¬ nI (cG μ 3).toNatClampNeg ≤ nI a := nI_ge (by omega) (by omega)
    have hv : (1 : Int32) + nI a = nI (1 + a) := nI_add 1 a
    have hw : (96 : Int32) + nI a = nI (96 + a) := nI_add 96 a
    refine OpOut.push (e := d) (v := nI (1 + a)) (b := 1) h (Nat.le_refl _) h6 (Or.inr ⟨rfl, 1 + a, Or.inr (Or.inl ⟨by omega, by omega⟩), rfl⟩) ⟨pushM μ t d (nI (1 + a)) 1, by rw [popB_self h.2.2.2.1]; exact pushM_one h.2.1, fun Q hq => ⟨fun hh => ?_, fun _ => ?_⟩⟩ rfl (fun μr hr => ⟨nI (96 + a), ?_, fun Q hq => way ⟨fun hh => ?_, fun _ => ?_⟩⟩)
    · rw [e3] at hh; exact absurd hh hle
    · show wp_Stk_putReference t ((1 : Int32) + nI a) μ (fun μ37 => Q μ37)
      rw [hv]; exact put_ok hd h6 (Or.inr rfl) hq
    · rw [if_neg (by decide), nI_clamp (by omega), enc_N (by omega)]
      unfold encN
      rw [if_pos (by omega)]
      congr 1
      omega
    · rw [r10 μr hr] at hh; exact absurd hh hle
    · rw [hw]; exact rf hr hq
-- SAME
theorem enc_inj {t x y : Nat} (ht : t < 4) (hx : x < 33) (hy : y < 33) (h : enc t x = enc t y) : x = y := by
  by_cases hy0 : y = 0
  · subst hy0
    by_cases hx0 : x = 0
    · exact hx0
    · rw [enc_0, enc_N hx0] at h
      have := encN_lt ht hx
      exact absurd (by decide : (-1 : Int32) < 0) (by rw [← h]; exact nI_pos (by omega))
  · rw [enc_N hy0] at h
    obtain ⟨z1, z2⟩ := enc_inv ht hx (encN_lt ht hy) h
    unfold encN at z2
    split at z2 <;> split at z2 <;> omega
theorem op_14 {c t e : Nat} {a : Int32} {μ : Mu} (h : Ctx c t (e + 2) μ) (h1 : ¬ (cT μ t).2.1 8 (e + 1) = 0) (h0 : ¬ (cT μ t).2.1 8 e = 0) : OpOut c t (false :: tys ((cT μ t).2.1 8) e) ((cT μ t).1 0 8) ((cT μ t).1 0 9) μ (wp_Host_compare t) (wp_Mod_plain (nI t) (nI 14) a) := by
  have h6 := h.2.2.2.2
  have hI := h.1.it h.2.1
  have hd := h.2.2.2.1
  have d2 : (popM (popM μ t (e + 1)) t e).1 (29 + 17 * t) 2 = nI e := popM_d
  obtain ⟨x, hx, ex⟩ := ((hI.2.2.2.2.1 (e + 1) (by rw [hd, nI_clamp (by omega)]; omega)).resolve_left h1).2
  obtain ⟨y, hy, ey⟩ := ((hI.2.2.2.2.1 e (by rw [hd, nI_clamp (by omega)]; omega)).resolve_left h0).2
  have kx := okR_lt h.1.sc.1 hx
  have ky := okR_lt h.1.sc.1 hy
  refine OpOut.push (e := e) (v := if y = x then 1 else 0) (b := 0) h (by omega) (by omega) (Or.inl rfl) (two_c h fun Q hq => two_take h ⟨fun hh => ?_, fun hh => ?_⟩) rfl (fun μr hr => ⟨if y = x then 1 else 0, rfl, fun Q hq => plain_a (by decide) (by decide) (by decide) ⟨fun hh => absurd rfl hh, fun _ => ?_⟩⟩)
  · rw [ex, ey, nI_eq (by omega) (by omega)] at hh
    rw [if_neg hh] at hq; exact truth_ok d2 (by omega) (Or.inl rfl) hq
  · rw [ex, ey, nI_eq (by omega) (by omega)] at hh
    rw [if_pos hh] at hq; exact truth_ok d2 (by omega) (Or.inr rfl) hq
  · have e1 := stk_r h hr (show e + 1 < e + 2 by omega)
    have e0 := stk_r h hr (show e < e + 2 by omega)
    rw [if_neg h1, ex, nI_clamp (by omega)] at e1
    rw [if_neg h0, ey, nI_clamp (by omega)] at e0
    refine value_ok (i := 1) h.2.1 (dep_r h hr) (by omega) h6 (value_ok (i := 0) h.2.1 (dep_r h hr) (by omega) h6 ?_)
    rw [show e + 2 - 1 - 1 = e by omega, show e + 2 - 1 - 0 = e + 1 by omega, e0, e1]
    have fin : ∀ v : Int32, v = (if y = x then 1 else 0) → wp_Mod_become (nI t) (2 : Int32) v μr (fun μ26 => Q (0 : Int32) μ26) := fun v hv => by
      rw [hv]
      exact become_ok (n := 2) h.2.1 (dep_r h hr) (by omega) (by omega) (by rw [show e + 2 - 2 = e by omega]; exact hq)
    refine ⟨fun _ => ⟨fun _ => ⟨fun _ => ⟨fun _ => ⟨fun _ => ⟨fun _ => ⟨fun hh => fin 0 ?_, fun hh => fin 1 ?_⟩, fun hh => absurd hh (by decide)⟩, fun hh => absurd hh (by decide)⟩, fun hh => absurd hh (by decide)⟩, fun hh => absurd hh (by decide)⟩, fun hh => absurd hh (by decide)⟩, fun hh => absurd hh (by decide)⟩
    · rw [if_neg (fun q => hh (by rw [q]))]
    · rw [if_pos (enc_inj h.2.1 ky kx hh)]
