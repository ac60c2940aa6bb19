/-! NEW. -/
/-- room for n more cells is looked for, in the midst of t's instruction -/
theorem room_X {c t k n : Nat} {μ : Mu} (hi : InvX c t μ) (ht : t < 4) (hk : k < 4) (hn : n ≤ 24) (hs : k = t → ¬ (cT μ t).1 0 7 = 0) : ∃ (x : Int32) (μ' : Mu) (m : Int64) (cl : Int32), (x = 0 ∨ x = 1) ∧ oneC k (gcB (cT μ k) m cl) μ μ' ∧ InvX c t μ' ∧ (∀ r, tb m r = true → tb (cT μ k).2.2 r = true) ∧ (∀ r, Rc (cT μ k) (rts (cT μ k)) r → tb m r = true) ∧
      (x = 1 → ∃ cap, cap ≤ 24 ∧ (cT μ k).1 1 5 = nI cap ∧ cnt (fun c => tb m (9 + c)) 24 + n ≤ cap) ∧ (∀ Q : Int32 → Mu → Prop, Q x μ' → wp_Ten_hasRoom k (nI n) μ Q) ∧
      ∀ μr, R2X t μ μr → Hsh t μ μr → ∃ μr', (∀ Q : Int32 → Mu → Prop, Q x μr' → wp_Mod_room (nI k) (nI n) μr Q) ∧ oneR k μr μr' ∧ R2X t μ' μr' ∧ Hsh t μ' μr' ∧ μr'.2.1 108 t = μr.2.1 108 t ∧ (∀ a, a ≠ 97 → a ≠ 101 → a ≠ 110 → μr'.2.1 a = μr.2.1 a) := by
  obtain ⟨x, μ', m, cl, hx, oC, hIT, hsub, hlive, hcap, wc, hR⟩ := hasRoom_ok hk hi.sc.1 hn (hi.it hk)
  have hIX : InvX c t μ' := hi.one hk oC (fun sc _ e _ => by rw [e, nI_clamp (by omega)] at hIT; exact hIT) (fun hkt hY => by
    refine ⟨hY.1, fun hna => ?_⟩
    have h3 := hY.2 hna
    refine ⟨h3.1, h3.2.1, ?_⟩
    show m = 0
    apply tb_ext
    intro r
    rw [tb_0]
    cases hb : tb m r with
    | false => rfl
    | true =>
      have := hsub r hb
      rw [h3.2.2, tb_0] at this; cases this) rfl
  refine ⟨x, μ', m, cl, hx, oC, hIX, hsub, hlive, hcap, wc, fun μr hr hsh => ?_⟩
  obtain ⟨d, hd, ed⟩ := (hi.it hk).1.1
  have h0 : (cT μ k).1 0 7 = 0 → (rV μr k).1 108 = 0 := by
    intro hz
    by_cases hkt : k = t
    · subst hkt; exact absurd hz (hs rfl)
    · rw [← ((hr.2.1 k hk).1 hkt).1.2.2.1]
      exact (hi.it hk).2.2.2.1 hz
  obtain ⟨μr', a1, a2, a3, a4⟩ := hR μr ((rV μr k).1 108) d (hr.2.1 k hk).2.1 (hr.2.1 k hk).2.2 ed hd h0 (fun q => by
    by_cases hkt : k = t
    · subst hkt; exact hsh d ed hd q
    · exact shape_X hi hr hk hkt ed hd q)
  have e108 : (rV μr' k).1 108 = (rV μr k).1 108 := by
    rw [← rVs (k := 108) rfl, ← rVs (k := 108) rfl, a4 108 (by decide) (by decide) (by decide)]
  have hg : RTg k (gcB (cT μ k) m cl) (rV μr' k) := by
    unfold RTg
    rw [e108]; exact a2
  refine ⟨μr', a1, a3, hr.one hi hk oC a3 ⟨fun hkt => hg.to ?_, hg⟩ (fun _ _ _ _ _ _ => rfl), ?_, by rw [a4 108 (by decide) (by decide) (by decide)], a4⟩
  · rw [e108]
    exact ((hr.2.1 k hk).1 hkt).1.2.2.1
  · by_cases hkt : k = t
    · subst hkt
      intro d' ed' hd' q
      rw [oC.2.2.2.1] at ed' ⊢
      rw [a4 107 (by decide) (by decide) (by decide), a4 108 (by decide) (by decide) (by decide), a4 94 (by decide) (by decide) (by decide)]
      exact hsh d' ed' hd' q
    · exact Hsh_other ht hkt oC a3 hsh
theorem there_r {c t d k : Nat} {μ μr : Mu} (h : Ctx c t d μ) (hr : R2X t μ μr) (hk : k < 4) {c0 : Nat} (h0 : c0 < 24) : μr.2.1 97 (24 * k + c0) = if tb (cT μ k).2.2 (9 + c0) = true then 1 else 0 := by
  rw [show μr.2.1 97 (24 * k + c0) = (rV μr k).2 97 c0 from rVa (k := 97) h0]
  exact (hr.2.1 k hk).2.1.2.2.2.2.2.2.2.2.1 c0 h0
theorem made_c {k : Nat} {μ : Mu} : μ.2.2 (24 + 17 * k) = (cT μ k).2.2 := rfl
theorem op_11b {c t e cap : Nat} {μ : Mu} (h : Ctx c t (e + 1) μ) (h1 : (cT μ t).2.1 8 e = 0) (hc : cap ≤ 24) (hf : cnt (fun c => tb (cT μ t).2.2 (9 + c)) 24 + 1 ≤ cap) : OpOut c t (true :: tys ((cT μ t).2.1 8) e) ((cT μ t).1 0 8) ((cT μ t).1 0 9) μ (fun μ Q => wp_Stk_take t μ (fun x5 μ4 => wp_Heap_make t x5 μ4 (fun x7 μ6 => wp_Stk_putReference t x7 μ6 (fun μ8 => Q μ8)))) (fun μr Q => wp_Mod_value (nI t) (0 : Int32) μr (fun x29 μ28 => wp_Mod_make (nI t) x29 μ28 (fun x31 μ30 => wp_Mod_become (nI t) (1 : Int32) x31 μ30 (fun μ32 => Q (0 : Int32) μ32)))) := by
  obtain ⟨hi, ht, hs1, hd, h6⟩ := id h
  have hdc : μ.1 (29 + 17 * t) 2 = nI (e + 1) := by rw [dep_c]; exact hd
  obtain ⟨c0, h0, hfr, hlo⟩ := free_ex (f := fun c => tb (cT μ t).2.2 (9 + c)) (by omega)
  have o1 := popM_one (μ := μ) (d := e) ht
  have o2 := mkM_one (μ := popM μ t e) (c0 := c0) (v := (cT μ t).2.1 7 e) ht
  rw [o1.2.2.2.1] at o2
  have o3 := pushM_one (μ := mkM (popM μ t e) t c0 ((cT μ t).2.1 7 e)) (d := e) (v := nI (9 + c0)) (b := 1) ht
  rw [o2.2.2.2.1] at o3
  have dd : (mkM (popM μ t e) t c0 ((cT μ t).2.1 7 e)).1 (29 + 17 * t) 2 = nI e := by rw [dep_c, o2.2.2.2.1]; rfl
  have hIm : IT (cG μ 3).toNatClampNeg (mkB (popB (cT μ t) e) c0 ((cT μ t).2.1 7 e)) := IT_make hi.sc.1 h0 hfr (IT_pop (hi.it ht) hd h6 (by omega))
  refine OpOut.one hi ht ⟨_, pushB (mkB (popB (cT μ t) e) c0 ((cT μ t).2.1 7 e)) e (nI (9 + c0)) 1, fun Q hq => take_ok hdc (by omega) ?_, (o1.tr o2).tr o3, IT_push hIm rfl (by omega) (Or.inr ⟨rfl, 9 + c0, Or.inr (Or.inr ⟨by omega, by omega, (mk_bit h0).mpr (Or.inr rfl)⟩), rfl⟩), rfl, fun x k b1 b2 b3 b4 => ?_, ⟨rfl, rfl, Or.inl ⟨hs1, ?_⟩⟩, fun μr hr2 _ => ?_⟩
  · rw [stk_c]
    exact make_c (μ := popM μ t e) h0 hfr hlo (put_ok dd (by omega) (Or.inr rfl) hq)
  · show (if x = 8 ∧ k = e then 1 else if x = 7 ∧ k = e then nI (9 + c0) else if x = 4 ∧ k = 9 + c0 then 0 else if x = 3 ∧ k = 9 + c0 then 0 else if x = 2 ∧ k = 9 + c0 then (cT μ t).2.1 7 e else (cT μ t).2.1 x k) = _
    rw [if_neg (by omega), if_neg (by omega), if_neg (by omega), if_neg (by omega), if_neg (by omega)]
  · show tys _ (nI (e + 1)).toNatClampNeg = _
    rw [nI_clamp (by omega), tys_push]; rfl
  · have ev := stk_r h hr2 (show e < e + 1 by omega)
    rw [if_pos h1] at ev
    have d112 : (mkR μr t c0 ((cT μ t).2.1 7 e)).2.1 112 t = nI (e + 1) := by rw [mkR_o (Or.inr (by decide))]; exact dep_r h hr2
    refine ⟨becM (mkR μr t c0 ((cT μ t).2.1 7 e)) t e (nI (24 * t + c0)), endR_0 fun Q hq => value_ok (i := 0) ht (dep_r h hr2) (by omega) h6 ?_, (mkR_one ht h0).tr (becM_one ht (by omega)), ?_, by rw [becM_108, mkR_o (Or.inr (by decide))]⟩
    · rw [show e + 1 - 1 - 0 = e by omega, ev]
      refine make_r ht h0 ?_ (fun c hc => ?_) (become_ok (n := 1) ht d112 (by omega) (by omega) (by rw [show e + 1 - 1 = e by omega]; exact hq))
      · rw [there_r h hr2 ht h0, if_neg (fun q => by rw [show tb (cT μ t).2.2 (9 + c0) = false from hfr] at q; cases q)]
      · rw [there_r h hr2 ht (by omega), if_pos (hlo c hc)]; decide
    · rw [becM_V (by omega), mkR_V h0]
      have hm : RTg t (mkB (cT μ t) c0 ((cT μ t).2.1 7 e)) (mkS (rV μr t) c0 ((cT μ t).2.1 7 e)) := RT_make h0 (hr2.2.1 t ht).2.1
      have := RTg_push (v := nI (9 + c0)) (b := 1) (w := nI (24 * t + c0)) (e := e) hm hd h6 (by omega) (by omega) (by
        rw [if_neg (by decide), nI_clamp (by omega), enc_N (by omega), encN_own])
      exact this
theorem op_11 {c t e : Nat} {a : Int32} {μ : Mu} (h : Ctx c t (e + 1) μ) (h1 : (cT μ t).2.1 8 e = 0) : OpOut c t (true :: tys ((cT μ t).2.1 8) e) ((cT μ t).1 0 8) ((cT μ t).1 0 9) μ (wp_Host_makeCell t) (wp_Mod_cellOp (nI t) (nI 11) a) := by
  obtain ⟨hi, ht, hs1, hd, h6⟩ := id h
  obtain ⟨x, μ', m, cl, hx, oC, hIX, hsub, hlive, hcap, wc, hR⟩ := room_X (n := 1) hi ht ht (by omega) (fun _ q => by rw [hs1] at q; exact absurd q (by decide))
  have eT := oC.2.2.2.1
  have hC : Ctx c t (e + 1) μ' := ⟨hIX, ht, by rw [eT]; exact hs1, by rw [eT]; exact hd, h6⟩
  have way : ∀ {μr : Mu} {Q : Int32 → Mu → Prop}, wp_Mod_room (nI t) (1 : Int32) μr (fun x27 μ26 => (((¬ x27 = 0) → wp_Mod_value (nI t) (0 : Int32) μ26 (fun x29 μ28 => wp_Mod_make (nI t) x29 μ28 (fun x31 μ30 => wp_Mod_become (nI t) (1 : Int32) x31 μ30 (fun μ32 => Q (0 : Int32) μ32)))) ∧ ((x27 = 0) → Q (9 : Int32) μ26))) → wp_Mod_cellOp (nI t) (nI 11) a μr Q := fun hq => ⟨fun hh => absurd rfl hh, fun _ => hq⟩
  rcases hx with rfl | rfl
  · have main := OpOut.fail (e := 9) (l := true :: tys ((cT μ t).2.1 8) e) (wc := wp_Host_end t 9) (wr := fun μr Q => Q 9 μr) hC (by decide) (by decide) (by decide) ⟨μ', (cT μ' t).1 6 2, by rw [bF_self rfl]; exact oneC.rf, fun Q hq => end_cls hq⟩ (fun μr hr Q hq => hq)
    rw [eT] at main
    refine OpOut.pre (μ := μ) main oC.2.2.2.2 oC.1 oC.2.1 (fun Q hq => wc _ ⟨fun _ => hq, fun hh => absurd rfl hh⟩) (fun μr hr hs => ?_)
    obtain ⟨μr', b1, b2, b3, b4, b5, -⟩ := hR μr hr hs
    exact ⟨μr', fun Q hq => way (b1 _ ⟨fun hh => absurd rfl hh, fun _ => hq⟩), b2.2.2.2.2, b3, b4, b5⟩
  · obtain ⟨cap, hc1, -, hc3⟩ := hcap rfl
    have main := op_11b (cap := cap) hC (by rw [eT]; exact h1) hc1 (by rw [eT]; exact hc3)
    rw [eT] at main
    refine OpOut.pre (μ := μ) main oC.2.2.2.2 oC.1 oC.2.1 (fun Q hq => wc _ ⟨fun hh => absurd hh z1, fun _ => hq⟩) (fun μr hr hs => ?_)
    obtain ⟨μr', b1, b2, b3, b4, b5, -⟩ := hR μr hr hs
    exact ⟨μr', fun Q hq => way (b1 _ ⟨fun _ => hq, fun hh => absurd hh z1⟩), b2.2.2.2.2, b3, b4, b5⟩
