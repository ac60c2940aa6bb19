-- GET
theorem row_c {t a i : Nat} {μ : Mu} (ha : a ≤ 2) : μ.2.1 (25 + a + 17 * t) i = (cT μ t).2.1 (2 + a) i := by
  rw [cTA (k := 25 + a) (by omega) (by omega), show 25 + a - 23 = 2 + a by omega]
theorem rowOf_ok {t a : Nat} {μ : Mu} {Q : Nat → Mu → Prop} (ha : a ≤ 2) (hq : Q (25 + a + 17 * t) μ) : wp_Heap_rowOf t (nI a) μ Q := by
  have : a = 0 ∨ a = 1 ∨ a = 2 := by omega
  rcases this with rfl | rfl | rfl
  · exact ⟨fun h => absurd rfl h, fun _ => hq⟩
  · exact ⟨fun _ => ⟨fun h => absurd rfl h, fun _ => hq⟩, fun h => absurd h (by decide)⟩
  · exact ⟨fun _ => ⟨fun _ => hq, fun h => absurd h (by decide)⟩, fun h => absurd h (by decide)⟩
theorem sh_row {t a : Nat} (ht : t < 4) (ha : a ≤ 2) : shapes[25 + a + 17 * t]? = some (.inl (0, 33, [])) := by
  have : a = 0 ∨ a = 1 ∨ a = 2 := by omega
  rcases this with rfl | rfl | rfl
  · exact sh_nums ht
  · exact sh_lefts ht
  · exact sh_rights ht
/-- the stack's value i of tenant t is a good reference -/
theorem stk_R {c t d i : Nat} {μ : Mu} (h : Ctx c t d μ) (hi : i < d) (h0 : ¬ (cT μ t).2.1 8 i = 0) : ∃ r, okR (cG μ 3).toNatClampNeg (cT μ t).2.2 r ∧ r < 33 ∧ (cT μ t).2.1 7 i = nI r := by
  have h6 := h.2.2.2.2
  obtain ⟨x, hx, ex⟩ := (((h.1.it h.2.1).2.2.2.2.1 i (by rw [h.2.2.2.1, nI_clamp (by omega)]; exact hi)).resolve_left h0).2
  exact ⟨x, hx, okR_lt h.1.sc.1 hx, ex⟩
theorem cell_r {c t d r : Nat} {μ μr : Mu} (h : Ctx c t d μ) (hr : R2X t μ μr) (hk : okR (cG μ 3).toNatClampNeg (cT μ t).2.2 r) (h0 : r ≠ 0) :
    μr.2.1 98 (encN t r) = (cT μ t).2.1 2 r ∧ μr.2.1 99 (encN t r) = enc t ((cT μ t).2.1 3 r).toNatClampNeg ∧ μr.2.1 100 (encN t r) = enc t ((cT μ t).2.1 4 r).toNatClampNeg :=
  cellB (B := bF (cT μ t) 0 9 ((rV μr t).1 108)) h.2.1 h.1.sc.1 (hr.2.1 t h.2.1).2.1 (hr.2.1 t h.2.1).2.2 hk h0
theorem nn0 {r : Nat} (h : r < 33) : nI r = 0 ↔ r = 0 := by rw [show (0 : Int32) = nI 0 from rfl, nI_eq (by omega) (by omega)]
theorem enc_nn {t r : Nat} (ht : t < 4) (h : r < 33) (h0 : r ≠ 0) : enc t r = nI (encN t r) ∧ vp_in (nI (encN t r)) 104 ∧ (nI (encN t r)).toNatClampNeg = encN t r ∧ (0 : Int32) ≤ nI (encN t r) := by
  have := encN_lt ht h
  exact ⟨enc_N h0, vp_in_nI this (by decide), nI_clamp (by omega), nI_pos' (by omega)⟩
theorem op_12 {c t e a : Nat} {μ : Mu} (h : Ctx c t (e + 1) μ) (ha : a ≤ 2) (h1 : ¬ (cT μ t).2.1 8 e = 0) : OpOut c t (decide (a ≠ 0) :: tys ((cT μ t).2.1 8) e) ((cT μ t).1 0 8) ((cT μ t).1 0 9) μ (wp_Host_getPart t (nI a)) (wp_Mod_cellOp (nI t) (nI 12) (nI a)) := by
  have h6 := h.2.2.2.2
  obtain ⟨r, hr, r33, er⟩ := stk_R h (show e < e + 1 by omega) h1
  have hdc : μ.1 (29 + 17 * t) 2 = nI (e + 1) := by rw [dep_c]; exact h.2.2.2.1
  have o1 := popM_one (μ := μ) (d := e) h.2.1
  have d2 : (popM μ t e).1 (29 + 17 * t) 2 = nI e := popM_d
  have way : ∀ {μr : Mu} {Q : Int32 → Mu → Prop}, wp_Mod_cellOp_j54 (nI t) (nI 12) (nI a) (0 : Int32) (nI t) μr Q → wp_Mod_cellOp (nI t) (nI 12) (nI a) μr Q := fun hq => ⟨fun _ => ⟨fun hh => absurd rfl hh, fun _ => hq⟩, fun hh => absurd hh (by decide)⟩
  have val : ∀ {μr : Mu} {Q : Int32 → Mu → Prop}, R2X t μ μr → Q (enc t r) μr → wp_Mod_value (nI t) (0 : Int32) μr Q := fun {μr Q} hr2 hq => value_ok (i := 0) h.2.1 (dep_r h hr2) (by omega) h6 (by
    rw [show e + 1 - 1 - 0 = e by omega, stk_r h hr2 (show e < e + 1 by omega), if_neg h1, er, nI_clamp (by omega)]; exact hq)
  by_cases h0 : r = 0
  · subst h0
    refine OpOut.fail (e := 7) h (by decide) (by decide) (by decide) ⟨popM μ t e, nI e, o1, fun Q hq => take_ok hdc (by omega) ?_⟩ (fun μr hr2 Q hq => way (val hr2 ⟨fun hh => absurd hh (by rw [enc_0]; decide), fun _ => hq⟩))
    rw [stk_c, er]
    exact ⟨fun hh => absurd rfl hh, fun _ => end_cls hq⟩
  · have hne : ¬ nI r = 0 := fun q => h0 ((nn0 r33).mp q)
    have hcl : (nI r).toNatClampNeg = r := nI_clamp (by omega)
    obtain ⟨ee, ein, ecl, enn⟩ := enc_nn h.2.1 r33 h0
    have cls : ∀ {Q : Mu → Prop} {b : Int32}, ((nI a = 0 ↔ b = 0) ∧ (b = 0 ∨ b = 1)) → Q (pushM (popM μ t e) t e ((cT μ t).2.1 (2 + a) r) b) → wp_Host_getPart t (nI a) μ Q := by
      intro Q b hb hq
      refine take_ok hdc (by omega) ?_
      rw [stk_c, er]
      refine ⟨fun _ => rowOf_ok ha ⟨sh_row h.2.1 ha, vp_in_nI r33 (by decide), fun hh => ?_, fun hh => ?_⟩, fun hh => absurd hh hne⟩
      · rw [hcl, popM_A, row_c ha]
        rw [hb.1.mp hh] at hq
        exact put_ok d2 (by omega) (Or.inl rfl) hq
      · rw [hcl, popM_A, row_c ha]
        rw [hb.2.resolve_left (fun q => hh (hb.1.mpr q))] at hq
        exact put_ok d2 (by omega) (Or.inr rfl) hq
    have o3 : ∀ b : Int32, oneC t (pushB (popB (cT μ t) e) e ((cT μ t).2.1 (2 + a) r) b) μ (pushM (popM μ t e) t e ((cT μ t).2.1 (2 + a) r) b) := fun b => by
      have := pushM_one (μ := popM μ t e) (d := e) (v := (cT μ t).2.1 (2 + a) r) (b := b) h.2.1
      rw [o1.2.2.2.1] at this
      exact o1.tr this
    have bec : ∀ {μr : Mu} {w : Int32} {Q : Int32 → Mu → Prop}, R2X t μ μr → Q 0 (becM μr t e w) → wp_Mod_become (nI t) (1 : Int32) w μr (fun μ21 => Q (0 : Int32) μ21) := fun {μr w Q} hr2 hq => become_ok (n := 1) (Q := fun μ21 => Q 0 μ21) h.2.1 (dep_r h hr2) (by omega) (by omega) (by rw [show e + 1 - 1 = e by omega]; exact hq)
    obtain ⟨⟨x, hx, ex⟩, y, hy, ey⟩ := cell_cls (h.1.it h.2.1) hr h0
    have h3 : a = 0 ∨ a = 1 ∨ a = 2 := by omega
    rcases h3 with rfl | rfl | rfl
    · refine OpOut.push (e := e) (v := (cT μ t).2.1 2 r) (b := 0) h (by omega) (by omega) (Or.inl rfl) ⟨_, o3 0, fun Q hq => cls (b := 0) ⟨by decide, Or.inl rfl⟩ hq⟩ rfl (fun μr hr2 => ⟨_, rfl, fun Q hq => way (val hr2 ?_)⟩)
      rw [ee]
      refine ⟨fun _ => ⟨fun hh => absurd rfl hh, fun _ => ⟨fun hh => absurd rfl hh, fun _ => ⟨ein, ?_⟩⟩⟩, fun hh => absurd enn hh⟩
      rw [ecl, (cell_r h hr2 hr h0).1]
      exact bec hr2 hq
    · refine OpOut.push (e := e) (v := (cT μ t).2.1 3 r) (b := 1) h (by omega) (by omega) (Or.inr ⟨rfl, x, hx, ex⟩) ⟨_, o3 1, fun Q hq => cls (b := 1) ⟨by decide, Or.inr rfl⟩ hq⟩ rfl (fun μr hr2 => ⟨_, rfl, fun Q hq => way (val hr2 ?_)⟩)
      rw [ee]
      refine ⟨fun _ => ⟨fun hh => absurd rfl hh, fun _ => ⟨fun _ => ⟨fun hh => absurd rfl hh, fun _ => ⟨ein, ?_⟩⟩, fun hh => absurd hh (by decide)⟩⟩, fun hh => absurd enn hh⟩
      rw [ecl, (cell_r h hr2 hr h0).2.1]
      exact bec hr2 hq
    · refine OpOut.push (e := e) (v := (cT μ t).2.1 4 r) (b := 1) h (by omega) (by omega) (Or.inr ⟨rfl, y, hy, ey⟩) ⟨_, o3 1, fun Q hq => cls (b := 1) ⟨by decide, Or.inr rfl⟩ hq⟩ rfl (fun μr hr2 => ⟨_, rfl, fun Q hq => way (val hr2 ?_)⟩)
      rw [ee]
      refine ⟨fun _ => ⟨fun hh => absurd rfl hh, fun _ => ⟨fun _ => ⟨fun _ => ⟨ein, ?_⟩, fun hh => absurd hh (by decide)⟩, fun hh => absurd hh (by decide)⟩⟩, fun hh => absurd enn hh⟩
      rw [ecl, (cell_r h hr2 hr h0).2.2]
      exact bec hr2 hq
-- SET
theorem op_13 {c t e a : Nat} {μ : Mu} (h : Ctx c t (e + 2) μ) (ha : a ≤ 2) (h1 : ((cT μ t).2.1 8 (e + 1) != 0) = decide (a ≠ 0)) (h0 : ¬ (cT μ t).2.1 8 e = 0) : OpOut c t (tys ((cT μ t).2.1 8) e) ((cT μ t).1 0 8) ((cT μ t).1 0 9) μ (wp_Host_setPart t (nI a)) (wp_Mod_cellOp (nI t) (nI 13) (nI a)) := by
  obtain ⟨hi, ht, hs1, hd, h6⟩ := id h
  obtain ⟨r, hr, r33, er⟩ := stk_R h (show e < e + 2 by omega) h0
  have hI := hi.it ht
  have o1 := popM_one (μ := μ) (d := e + 1) ht
  have o2 := popM_one (μ := popM μ t (e + 1)) (d := e) ht
  rw [o1.2.2.2.1, popB_popB] at o2
  have o12 := o1.tr o2
  have way : ∀ {μr : Mu} {Q : Int32 → Mu → Prop}, wp_Mod_cellOp_j54 (nI t) (nI 13) (nI a) (1 : Int32) (nI t) μr Q → wp_Mod_cellOp (nI t) (nI 13) (nI a) μr Q := fun hq => ⟨fun _ => ⟨fun _ => hq, fun hh => absurd hh (by decide)⟩, fun hh => absurd hh (by decide)⟩
  have val1 : ∀ {μr : Mu} {Q : Int32 → Mu → Prop}, R2X t μ μr → Q (enc t r) μr → wp_Mod_value (nI t) (1 : Int32) μr Q := fun {μr Q} hr2 hq => value_ok (i := 1) ht (dep_r h hr2) (by omega) h6 (by
    rw [show e + 2 - 1 - 1 = e by omega, stk_r h hr2 (show e < e + 2 by omega), if_neg h0, er, nI_clamp (by omega)]; exact hq)
  by_cases hz : r = 0
  · subst hz
    refine OpOut.fail (e := 7) h (by decide) (by decide) (by decide) ⟨_, nI e, o12, fun Q hq => two_take h ?_⟩ (fun μr hr2 Q hq => way (val1 hr2 ⟨fun hh => absurd hh (by rw [enc_0]; decide), fun _ => hq⟩))
    rw [er]
    exact ⟨fun hh => absurd rfl hh, fun _ => end_cls hq⟩
  have hne : ¬ nI r = 0 := fun q => hz ((nn0 r33).mp q)
  have hcl : (nI r).toNatClampNeg = r := nI_clamp (by omega)
  obtain ⟨ee, ein, ecl, enn⟩ := enc_nn ht r33 hz
  by_cases h9 : r < 9
  · have h96 : ¬ nI (encN t r) < (96 : Int32) := nI_nlt (b := 96) (by unfold encN; rw [if_pos h9]; omega) (by have := encN_lt ht r33; omega)
    refine OpOut.fail (e := 8) h (by decide) (by decide) (by decide) ⟨_, nI e, o12, fun Q hq => two_take h ?_⟩ (fun μr hr2 Q hq => way (val1 hr2 ?_))
    · rw [er]
      exact ⟨fun _ => ⟨fun hh => absurd hh (nI_ge (b := 9) h9 (by omega)), fun _ => end_cls hq⟩, fun hh => absurd hh hne⟩
    · rw [ee]
      exact ⟨fun _ => ⟨fun _ => ⟨fun hh => absurd hh h96, fun _ => hq⟩, fun hh => absurd hh (by decide)⟩, fun hh => absurd enn hh⟩
  -- it is set
  have hm : tb (cT μ t).2.2 r = true := okR_made hi.sc.1 hr (by omega)
  have eN : encN t r = 24 * t + (r - 9) := by unfold encN; rw [if_neg h9]
  have h96 : nI (encN t r) < (96 : Int32) := nI_lt (b := 96) (by omega) (by omega)
  have hst := hI.2.2.2.2.1 (e + 1) (by rw [hd, nI_clamp (by omega)]; omega)
  have hv : a ≠ 0 → isR (cG μ 3).toNatClampNeg (cT μ t).2.2 ((cT μ t).2.1 7 (e + 1)) := fun q => by
    rw [decide_eq_true q] at h1
    rcases hst with h | h
    · rw [h] at h1; cases h1
    · exact h.2
  have o3 := oneC_A (μ := popM (popM μ t (e + 1)) t e) (k := 25 + a) (j := r) (v := (cT μ t).2.1 7 (e + 1)) ht (by omega) (by omega)
  rw [o12.2.2.2.1, show 25 + a - 23 = 2 + a by omega] at o3
  refine OpOut.one hi ht ⟨setA (popM (popM μ t (e + 1)) t e) (25 + a + 17 * t) r ((cT μ t).2.1 7 (e + 1)), bA (popB (cT μ t) e) (2 + a) r ((cT μ t).2.1 7 (e + 1)), fun Q hq => two_take h ?_, o12.tr o3, ?_, rfl, fun x k b1 b2 b3 b4 => ?_, ⟨rfl, rfl, Or.inl ⟨hs1, ?_⟩⟩, fun μr hr2 _ => ?_⟩
  · rw [er]
    refine ⟨fun _ => ⟨fun _ => rowOf_ok ha ⟨sh_row ht ha, vp_in_nI r33 (by decide), fun μ9 e9 => ?_⟩, fun hh => absurd (nI_le (a := 9) (by omega) (by omega)) hh⟩, fun hh => absurd hh hne⟩
    rw [e9, hcl]; exact hq
  · obtain ⟨a1, a2, a3, a4, a5, a6, a7, a8, ⟨a9, a10⟩, a11⟩ := IT_pop (e := e) hI hd h6 (by omega)
    have stay : ∀ (x y : Nat) (w : Int32), (2 + a ≠ x ∨ y ≠ r) → (bA (popB (cT μ t) e) (2 + a) r w).2.1 x y = (cT μ t).2.1 x y := fun x y w q => if_neg fun z => by omega
    refine ⟨a1, a2, a3, a4, fun i hi => ?_, ⟨?_, ?_⟩, fun i hi => ?_, fun x hx => ?_, ⟨fun x hx => ?_, fun k hk => ?_⟩, fun u hu => ?_⟩
    · rw [stay 8 i _ (by omega), stay 7 i _ (by omega)]; exact a5 i hi
    · rw [stay 9 2 _ (by omega)]; exact a6.1
    · rw [stay 9 3 _ (by omega)]; exact a6.2
    · rw [stay 11 i _ (by omega)]; exact a7 i hi
    · obtain ⟨q1, q2, q3, q4⟩ := a8 x hx
      refine ⟨q1, q2, ?_, ?_⟩
      · show isR _ (cT μ t).2.2 (if 3 = 2 + a ∧ x = r then (cT μ t).2.1 7 (e + 1) else (cT μ t).2.1 3 x)
        by_cases hh : 3 = 2 + a ∧ x = r
        · rw [if_pos hh]; exact hv (by omega)
        · rw [if_neg hh]; exact q3
      · show isR _ (cT μ t).2.2 (if 4 = 2 + a ∧ x = r then (cT μ t).2.1 7 (e + 1) else (cT μ t).2.1 4 x)
        by_cases hh : 4 = 2 + a ∧ x = r
        · rw [if_pos hh]; exact hv (by omega)
        · rw [if_neg hh]; exact q4
    · rw [stay 5 x _ (by omega)]; exact a9 x hx
    · have k8 := hi.sc.1
      rw [stay 3 (1 + k) _ (by omega), stay 4 (1 + k) _ (by omega)]; exact a10 k hk
    · rw [stay 16 u _ (by omega)]; exact a11 u hu
  · show (if x = 2 + a ∧ k = r then (cT μ t).2.1 7 (e + 1) else (cT μ t).2.1 x k) = _
    rw [if_neg (by omega)]
  · show tys (fun i => if 8 = 2 + a ∧ i = r then (cT μ t).2.1 7 (e + 1) else (cT μ t).2.1 8 i) (nI e).toNatClampNeg = _
    rw [nI_clamp (by omega)]
    exact tys_congr fun i hi => if_neg (by omega)
  · have ev := stk_r h hr2 (show e + 1 < e + 2 by omega)
    have hw : wd (98 + a) = 24 ∧ isS (98 + a) = false := by
      have h3 : a = 0 ∨ a = 1 ∨ a = 2 := by omega
      rcases h3 with rfl | rfl | rfl <;> exact ⟨rfl, rfl⟩
    have hV : rV (setA μr (98 + a) (24 * t + (r - 9)) (μr.2.1 113 (6 * t + (e + 1)))) t = pA (rV μr t) (98 + a) (r - 9) (μr.2.1 113 (6 * t + (e + 1))) := by
      have := rV_a (μ := μr) (t := t) (k := 98 + a) (i := r - 9) (v := μr.2.1 113 (6 * t + (e + 1))) hw.2 (by rw [hw.1]; omega)
      rw [hw.1] at this; exact this
    have hone : oneR t μr (setA μr (98 + a) (24 * t + (r - 9)) (μr.2.1 113 (6 * t + (e + 1)))) := by
      have := oneR_a (μ := μr) (t := t) (k := 98 + a) (i := r - 9) (v := μr.2.1 113 (6 * t + (e + 1))) ht hw.2 (by rw [hw.1]; omega) (by rw [hw.1]; omega) (by omega)
      rw [hw.1] at this; exact this
    refine ⟨decM (setA μr (98 + a) (24 * t + (r - 9)) (μr.2.1 113 (6 * t + (e + 1)))) t e, endR_0 fun Q hq => way (val1 hr2 ?_), hone.tr decM_one, ?_, by rw [decM_o (by decide), a_o (by omega)]⟩
    · rw [ee]
      have fin : ∀ μ9 : Mu, μ9 = setA μr (98 + a) (encN t r) (μr.2.1 113 (6 * t + (e + 1))) → (vp_in (nI t) 4 ∧ (vp_in (nI t) 4 ∧ ∀ μ10 : Mu, μ10 = setA μ9 112 (Int32.toNatClampNeg (nI t)) ((μ9.2.1 112 (Int32.toNatClampNeg (nI t))) - (2 : Int32)) → Q (0 : Int32) μ10)) := by
        intro μ9 e9
        refine ⟨in4 ht, in4 ht, fun μ10 e10 => ?_⟩
        have e112 : μ9.2.1 112 t = nI (e + 2) := by rw [e9, a_n (Or.inl (by omega))]; exact dep_r h hr2
        rw [cl4 ht, e112, show (2 : Int32) = nI 2 from rfl, pk_sub (by omega), show e + 2 - 2 = e by omega] at e10
        rw [e10, e9, eN]; exact hq
      have val0 : ∀ {Q : Int32 → Mu → Prop}, Q (μr.2.1 113 (6 * t + (e + 1))) μr → wp_Mod_value (nI t) (0 : Int32) μr Q := fun {Q} hq => value_ok (i := 0) ht (dep_r h hr2) (by omega) h6 (by rw [show e + 2 - 1 - 0 = e + 1 by omega]; exact hq)
      refine ⟨fun _ => ⟨fun _ => ⟨fun _ => val0 ?_, fun hh => absurd h96 hh⟩, fun hh => absurd hh (by decide)⟩, fun hh => absurd enn hh⟩
      rw [ecl]
      have h3 : a = 0 ∨ a = 1 ∨ a = 2 := by omega
      rcases h3 with rfl | rfl | rfl
      · exact ⟨fun hh => absurd rfl hh, fun _ => ⟨ein, fun μ16 e16 => fin μ16 e16⟩⟩
      · exact ⟨fun _ => ⟨fun hh => absurd rfl hh, fun _ => ⟨ein, fun μ16 e16 => fin μ16 e16⟩⟩, fun hh => absurd hh (by decide)⟩
      · exact ⟨fun _ => ⟨fun _ => ⟨ein, fun μ16 e16 => fin μ16 e16⟩, fun hh => absurd hh (by decide)⟩, fun hh => absurd hh (by decide)⟩
    · rw [decM_V, hV]
      obtain ⟨x1, x2, x3, x4, x5, x6, x7, x8, x9, x10⟩ := RTg_pop (e := e) (hr2.2.1 t ht).2.1 hd h6 (by omega)
      generalize μr.2.1 113 (6 * t + (e + 1)) = w at *
      have h3 : a = 0 ∨ a = 1 ∨ a = 2 := by omega
      have hcell : ∀ k : Nat, (9 + k = r) ↔ k = r - 9 := fun k => by omega
      rcases h3 with rfl | rfl | rfl
      · rw [if_pos (Classical.byContradiction fun q => by simp [q] at h1)] at ev
        refine ⟨x1, x2, x3, x4, x5, x6, x7, x8, x9, fun k hk hb => ?_⟩
        obtain ⟨y1, y2, y3⟩ := x10 k hk hb
        refine ⟨?_, y2, y3⟩
        show (if 98 = 98 ∧ k = r - 9 then w else (rV μr t).2 98 k) = if 2 = 2 ∧ 9 + k = r then (cT μ t).2.1 7 (e + 1) else (cT μ t).2.1 2 (9 + k)
        by_cases hh : k = r - 9
        · rw [if_pos ⟨rfl, hh⟩, if_pos ⟨rfl, (hcell k).mpr hh⟩]; exact ev
        · rw [if_neg (fun q => hh q.2), if_neg (fun q => hh ((hcell k).mp q.2))]; exact y1
      · rw [if_neg (fun q => by simp [q] at h1)] at ev
        refine ⟨x1, x2, x3, x4, x5, x6, x7, x8, x9, fun k hk hb => ?_⟩
        obtain ⟨y1, y2, y3⟩ := x10 k hk hb
        refine ⟨y1, ?_, y3⟩
        show (if 99 = 99 ∧ k = r - 9 then w else (rV μr t).2 99 k) = enc t (if 3 = 3 ∧ 9 + k = r then (cT μ t).2.1 7 (e + 1) else (cT μ t).2.1 3 (9 + k)).toNatClampNeg
        by_cases hh : k = r - 9
        · rw [if_pos ⟨rfl, hh⟩, if_pos ⟨rfl, (hcell k).mpr hh⟩]; exact ev
        · rw [if_neg (fun q => hh q.2), if_neg (fun q => hh ((hcell k).mp q.2))]; exact y2
      · rw [if_neg (fun q => by simp [q] at h1)] at ev
        refine ⟨x1, x2, x3, x4, x5, x6, x7, x8, x9, fun k hk hb => ?_⟩
        obtain ⟨y1, y2, y3⟩ := x10 k hk hb
        refine ⟨y1, y2, ?_⟩
        show (if 100 = 100 ∧ k = r - 9 then w else (rV μr t).2 100 k) = enc t (if 4 = 4 ∧ 9 + k = r then (cT μ t).2.1 7 (e + 1) else (cT μ t).2.1 4 (9 + k)).toNatClampNeg
        by_cases hh : k = r - 9
        · rw [if_pos ⟨rfl, hh⟩, if_pos ⟨rfl, (hcell k).mpr hh⟩]; exact ev
        · rw [if_neg (fun q => hh q.2), if_neg (fun q => hh ((hcell k).mp q.2))]; exact y3
