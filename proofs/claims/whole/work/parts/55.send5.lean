-- SEND
theorem rV_Go {ν : Mu} {u k : Nat} {f : Nat → Int32} (hk : isS k = false) (hw : wd k = 0) : rV (setG ν k f) u = rV ν u := rV_ext (fun a hs => by rw [g_o (fun e => by rw [e, hk] at hs; cases hs)]) (fun a i hs => by rw [g_o (fun e => by rw [e, hw] at hs; omega)])
theorem tc_one {t : Nat} {μr : Mu} {g f : Nat → Int32} : oneR t μr (setG (stM μr g) 102 f) := by
  refine ⟨rfl, fun a b1 b2 => funext fun x => ?_, fun u hu hne => by rw [rV_Go rfl rfl, rV_M], fun a ha => (g_o (by omega)).trans (g_o (by omega)), (clsEq.rf.G (by omega)).G (by omega)⟩
  show (if x < 8 then (setG (stM μr g) 102 f).2.1 a (96 + x) else 0) = if x < 8 then μr.2.1 a (96 + x) else 0
  rw [g_o (by omega), stM_o (by omega)]
theorem tc_arr {μr : Mu} {g f : Nat → Int32} {a : Nat} (h1 : a ≠ 101) (h2 : a ≠ 102) : (setG (stM μr g) 102 f).2.1 a = μr.2.1 a := (g_o h2).trans (g_o h1)
theorem tc_R2X {c t : Nat} {μ μr : Mu} {g f : Nat → Int32} (hi : InvX c t μ) (ht : t < 4) (hr : R2X t μ μr) : R2X t μ (setG (stM μr g) 102 f) :=
  hr.one hi ht oneC.rf tc_one ⟨fun h => absurd rfl h, by rw [rV_Go rfl rfl, rV_M]; exact (hr.2.1 t ht).2.1⟩ (fun _ _ _ _ _ _ => rfl)
theorem Hsh_rows {t : Nat} {μ μ3 μr μr3 : Mu} (h : Hsh t μ μr) (e1 : (cT μ3 t).1 6 2 = (cT μ t).1 6 2) (e2 : (cT μ3 t).2.1 8 = (cT μ t).2.1 8) (a1 : μr3.2.1 107 t = μr.2.1 107 t) (a2 : μr3.2.1 108 t = μr.2.1 108 t) (a3 : μr3.2.1 94 = μr.2.1 94) : Hsh t μ3 μr3 := by
  intro d ed hd h0
  rw [e1] at ed
  rw [a1, a2, a3, e2]
  exact h d ed hd h0
theorem full_c {k n cn : Nat} {μ : Mu} {Q : Int32 → Mu → Prop} (hc : μ.1 k 1 = nI cn) (h1 : cn ≤ n) (h2 : n < 2 ^ 31) (hq : Q (if cn < n then 0 else 1) μ) : wp_Line_isFull k n μ Q := by
  unfold wp_Line_isFull
  rw [hc]
  refine ⟨fun h => ?_, fun h => ?_⟩
  · rw [if_pos ((nI_ltI (by omega) h2).mp h)] at hq; exact hq
  · rw [if_neg (fun q => h (nI_lt q h2))] at hq; exact hq
theorem op_21 {c t e k : Nat} {μ : Mu} (h : Ctx c t (e + 1) μ) (hk : k < 4) (h1 : ¬ (cT μ t).2.1 8 e = 0) : OpOut c t (false :: tys ((cT μ t).2.1 8) e) ((cT μ t).1 0 8) ((cT μ t).1 0 9) μ (wp_Host_sendTo t (nI k)) (wp_Mod_traffic (nI t) (nI 21) (nI k)) := by
  obtain ⟨hi, ht, hs1, hd, h6⟩ := id h
  have hI := hi.it ht
  have h8 := hi.sc.1
  have hdc : μ.1 (29 + 17 * t) 2 = nI (e + 1) := by rw [dep_c]; exact hd
  obtain ⟨v, hv, ev, er⟩ := may_v h hk
  obtain ⟨r, hr, r33, er7⟩ := stk_R h (show e < e + 1 by omega) h1
  have hix : ((4 : Int32) * nI t + nI k).toNatClampNeg = 4 * t + k := ix_cl (w := 4) ht hk (by omega)
  have way : ∀ {μr : Mu} {Q : Int32 → Mu → Prop}, wp_Mod_send (nI t) (nI k) μr (fun x24 μ23 => Q x24 μ23) → wp_Mod_traffic (nI t) (nI 21) (nI k) μr Q := fun hq => ⟨fun hh => absurd rfl hh, fun _ => hq⟩
  by_cases hm : nI v &&& (1 : Int32) = 0
  · refine OpOut.fail (e := 10) h (by decide) (by decide) (by decide) ⟨μ, (cT μ t).1 6 2, by rw [bF_self rfl]; exact oneC.rf, fun Q hq => may_ok hk ev ⟨fun _ => ⟨fun hh => absurd rfl hh, fun _ => end_cls hq⟩, fun hh => absurd hm hh⟩⟩ (fun μr hr2 Q hq => way ⟨ix_le (w := 4) ht hk rfl (by omega), fun hh => ?_, fun _ => hq⟩)
    rw [hix, er μr hr2] at hh; exact absurd ((may_dec v hv).1.mp hm) hh
  -- what is reached
  have hmade : ∀ x, Rc (cT μ t) (fun y => y = r) x → tb (cT μ t).2.2 x = true := fun x hx => Rc_madeR h8 hI (fun y hy h9 h33 => by
    have hy : y = r := hy
    subst hy
    exact okR_made h8 hr h9) hx
  obtain ⟨F, hF, goF⟩ := reached_ok (t := t) (μ := μ) (w := one r) (R := fun y => y = r) (fun x h9 h33 => by rw [tb_one (by omega), decide_eq_true_eq]) (fun x hx => by
    obtain ⟨-, -, ⟨a, ha, ea⟩, b, hb, eb⟩ := hI.2.2.2.2.2.2.2.1 x (hmade x hx)
    exact ⟨⟨a, okR_lt h8 ha, ea⟩, b, okR_lt h8 hb, eb⟩)
  have hn24 := cnt_le (fun x => tb F (9 + x)) 24
  obtain ⟨mc, hmc, emc⟩ := (hi.it hk).1.2.1
  have r116 : ∀ μr, R2X t μ μr → μr.2.1 116 k = nI mc := fun μr hr => by
    rw [rVs (k := 116) rfl, ← (hr.2.1 k hk).2.1.2.1.2.2.2.1]; exact emc
  have c33 : μ.1 (33 + 17 * k) 1 = nI mc := (cTF (by omega) (by omega)).trans emc
  -- the ways of both to the decision
  have cw : ∀ {Q : Mu → Prop}, wp_Ten_isAlive k μ (fun x10 μ9 => (((x10 = 0) → wp_Host_sendTo_j79 t k (nI r) F μ9  Q) ∧ ((¬ x10 = 0) → wp_Line_isFull (33 + 17 * k) 4 μ9 (fun x22 μ21 => (((¬ x22 = 0) → wp_Host_sendTo_j79 t k (nI r) F μ21  Q) ∧ ((x22 = 0) → wp_JL_bitCount F μ21 (fun x24 μ23 => wp_Ten_hasRoom k x24 μ23 (fun x26 μ25 => (((x26 = 0) → wp_Host_sendTo_j79 t k (nI r) F μ25  Q) ∧ ((¬ x26 = 0) → wp_Host_sendTo_j80 t k (nI r) F (1 : Int32) μ25  Q)))))))))) → wp_Host_sendTo t (nI k) μ Q := fun {Q} hq => may_ok hk ev ⟨fun hh => absurd hh hm, fun _ => ⟨fun _ => ⟨in4 hk, top_ok hdc (by omega) (by rw [stk_c, er7, cl4 hk]; exact goF _ hq)⟩, fun hh => absurd hh z1⟩⟩
  have rw1 : ∀ {μr : Mu} {Q : Int32 → Mu → Prop}, R2X t μ μr → wp_Mod_alive (nI k) μr (fun x5 μ4 => (((x5 = 0) → wp_Mod_send_j47 (nI t) (nI k) (enc t r) μ4 (fun x24 μ23 => Q x24 μ23)) ∧ ((¬ x5 = 0) → (vp_in (nI k) 4 ∧ ((((4 : Int32) ≤ (μ4.2.1 116 (Int32.toNatClampNeg (nI k)))) → wp_Mod_send_j47 (nI t) (nI k) (enc t r) μ4 (fun x24 μ23 => Q x24 μ23)) ∧ ((¬ (4 : Int32) ≤ (μ4.2.1 116 (Int32.toNatClampNeg (nI k)))) → wp_Mod_send_j48 (nI t) (nI k) (enc t r) (1 : Int32) μ4 (fun x24 μ23 => Q x24 μ23))))))) → wp_Mod_traffic (nI t) (nI 21) (nI k) μr Q := fun {μr Q} hr2 hq => way ⟨ix_le (w := 4) ht hk rfl (by omega), fun _ => value_ok (i := 0) ht (dep_r h hr2) (by omega) h6 (by
      rw [show e + 1 - 1 - 0 = e by omega, stk_r h hr2 (show e < e + 1 by omega), if_neg h1, er7, nI_clamp (by omega)]; exact hq), fun hh => by
    rw [hix, er μr hr2] at hh; exact absurd ((may_dec v hv).1.mpr hh) hm⟩
  -- nothing arrives
  have cno : ∀ {c t e : Nat} {μ' : Mu} {Q : Mu → Prop} {k : Nat} {r : Int32} {F : Int64}, Ctx c t (e + 1) μ' → Q (pushM (popM μ' t e) t e 0 0) → wp_Host_sendTo_j79 t k r F μ' Q := fun {c t e μ' Q k r F} hC hq => ⟨fun _ => take_ok (by rw [dep_c]; exact hC.2.2.2.1) (by have := hC.2.2.2.2; omega) (truth_ok popM_d (by have := hC.2.2.2.2; omega) (Or.inl rfl) hq), fun hh => absurd rfl hh⟩
  have pushT : ∀ {μ' : Mu} {x : Int32} {wc : Mu → (Mu → Prop) → Prop}, Ctx c t (e + 1) μ' → (∀ Q : Mu → Prop, Q (pushM (popM μ' t e) t e x 0) → wc μ' Q) → OpOut c t (false :: tys ((cT μ' t).2.1 8) e) ((cT μ' t).1 0 8) ((cT μ' t).1 0 9) μ' wc (fun μr Q => wp_Mod_become (nI t) (1 : Int32) x μr (fun μ8 => Q (0 : Int32) μ8)) := fun {μ' x wc} hC hw => by
    have p1 := popM_one (μ := μ') (d := e) ht
    have p2 := pushM_one (μ := popM μ' t e) (d := e) (v := x) (b := 0) ht
    rw [p1.2.2.2.1] at p2
    exact OpOut.push (e := e) (v := x) (b := 0) hC (by omega) (by omega) (Or.inl rfl) ⟨_, p1.tr p2, hw⟩ rfl (fun μr hr => ⟨x, rfl, fun Q hq => become_ok (n := 1) ht (dep_r hC hr) (by omega) (by omega) (by rw [show e + 1 - 1 = e by omega]; exact hq)⟩)
  have tcp : ∀ μr, R2X t μ μr → Hsh t μ μr → ∃ g f, (∀ v, v < 104 → (¬ f v = 0 ↔ ∃ c, c < 24 ∧ v = 24 * t + c ∧ tb F (9 + c) = true)) ∧ R2X t μ (setG (stM μr g) 102 f) ∧ Hsh t μ (setG (stM μr g) 102 f) ∧ ∀ Q : Int32 → Mu → Prop, Q (nI (cnt (fun x => tb F (9 + x)) 24)) (setG (stM μr g) 102 f) → wp_Mod_toCopy (enc t r) μr Q := fun μr hr2 hs => by
    obtain ⟨g, f, hfl, go⟩ := toCopy_ok h hr2 hr hF
    exact ⟨g, f, hfl, tc_R2X hi ht hr2, Hsh_rows hs rfl rfl (by rw [tc_arr (by decide) (by decide)]) (by rw [tc_arr (by decide) (by decide)]) (tc_arr (by decide) (by decide)), go⟩
  by_cases hgo : ((cT μ k).1 0 7 = 1 ∨ (cT μ k).1 0 7 = 2) ∧ mc < 4
  · obtain ⟨hal, hmc4⟩ := hgo
    obtain ⟨x, μ', m, cl, hx, oC, hIX, hsub, hlive, hcap, wcR, hR⟩ := room_X (n := cnt (fun x => tb F (9 + x)) 24) hi ht hk hn24 (fun _ q => by rw [hs1] at q; exact absurd q (by decide))
    have cw2 : ∀ {Q : Mu → Prop}, (((x = 0) → wp_Host_sendTo_j79 t k (nI r) F μ'  Q) ∧ ((¬ x = 0) → wp_Host_sendTo_j80 t k (nI r) F (1 : Int32) μ'  Q)) → wp_Host_sendTo t (nI k) μ Q := fun {Q} hq => cw (alive_c (fun _ => ⟨fun hh => absurd hh z1, fun _ => full_c c33 hmc (by decide) (by rw [if_pos hmc4]; exact ⟨fun hh => absurd rfl hh, fun _ => bitcount_ok (fun y hy => ((hF y).mp hy).own) (wcR _ hq)⟩)⟩) (fun hh => absurd hal hh))
    have rw2 : ∀ μr, R2X t μ μr → Hsh t μ μr → ∃ f μr', (∀ v, v < 104 → (¬ f v = 0 ↔ ∃ c, c < 24 ∧ v = 24 * t + c ∧ tb F (9 + c) = true)) ∧ μr'.2.1 102 = f ∧ clsEq μr μr' ∧ R2X t μ' μr' ∧ Hsh t μ' μr' ∧ μr'.2.1 108 t = μr.2.1 108 t ∧ ∀ Q : Int32 → Mu → Prop, wp_Mod_send_j71 (nI t) (nI k) (enc t r) x μr' (fun x24 μ23 => Q x24 μ23) → wp_Mod_traffic (nI t) (nI 21) (nI k) μr Q := fun μr hr2 hs => by
      obtain ⟨g, f, hfl, q1, q2, q3⟩ := tcp μr hr2 hs
      obtain ⟨μr', b1, b2, b3, b4, b5, b6⟩ := hR _ q1 q2
      refine ⟨f, μr', hfl, by rw [b6 102 (by decide) (by decide) (by decide)]; exact g_at, (tc_one (t := t)).2.2.2.2.tr b2.2.2.2.2, b3, b4, by rw [b5, tc_arr (by decide) (by decide)], fun Q hq => rw1 hr2 (alive_r hk (st_r hr2 hk) (fun _ => ⟨fun hh => absurd hh z1, fun _ => ⟨in4 hk, fun hh => ?_, fun _ => q3 _ ⟨fun hh => absurd hh z1, fun _ => b1 _ hq⟩⟩⟩) (fun hh => absurd hal hh))⟩
      rw [cl4 hk, r116 μr hr2] at hh; exact absurd hh (nI_ge (b := 4) hmc4 (by omega))
    -- the sender, after the collection
    have sR : (cT μ' t).2.1 = (cT μ t).2.1 ∧ (cT μ' t).1 0 7 = 1 ∧ (cT μ' t).1 6 2 = nI (e + 1) ∧ (cT μ' t).1 0 8 = (cT μ t).1 0 8 ∧ (cT μ' t).1 0 9 = (cT μ t).1 0 9 ∧ ∀ y, tb F y = true → tb (cT μ' t).2.2 y = true := by
      by_cases hkt : k = t
      · subst hkt
        rw [oC.2.2.2.1]
        refine ⟨rfl, hs1, hd, rfl, rfl, fun y hy => hlive y (((hF y).mp hy) _ (fun z hz h9 h33 => ?_) (fun z y hz he h9 h33 => hz.next he h9 h33))⟩
        have hz : z = r := hz
        subst hz
        exact Rc.root (Or.inl ⟨e, by rw [hd, nI_clamp (by omega)]; omega, h1, er7⟩) h9 h33
      · rw [oC.2.2.1 t ht (Ne.symm hkt)]
        exact ⟨rfl, hs1, hd, rfl, rfl, fun y hy => hmade y ((hF y).mp hy)⟩
    have hC : Ctx c t (e + 1) μ' := ⟨hIX, ht, sR.2.1, sR.2.2.1, h6⟩
    rcases hx with rfl | rfl
    · have main := pushT (x := 0) (wc := fun μ' Q => wp_Host_sendTo_j79 t k (nI r) F μ' Q) hC (fun Q hq => cno hC hq)
      rw [sR.1, sR.2.2.2.1, sR.2.2.2.2.1] at main
      refine OpOut.pre (μ := μ) main oC.2.2.2.2 oC.1 oC.2.1 (fun Q hq => cw2 ⟨fun _ => hq, fun hh => absurd rfl hh⟩) (fun μr hr2 hs => ?_)
      obtain ⟨f, μr', -, -, b3, b4, b5, b6, b7⟩ := rw2 μr hr2 hs
      exact ⟨μr', fun Q hq => b7 Q ⟨fun _ => ⟨fun _ => hq, fun hh => absurd rfl hh⟩, fun hh => absurd rfl hh⟩, b3, b4, b5, b6⟩
    · -- it arrives
      obtain ⟨cap, hc1, -, hc3⟩ := hcap rfl
      have e3 : cG μ' 3 = cG μ 3 := by rw [oC.1]
      have eTk := oC.2.2.2.1
      obtain ⟨pr, μ2, hC1, pok, p33, wcp, rcp⟩ := copy_X (c := c) (t := t) (k := k) (r := r) (cap := cap) (F := F) (μ0 := μ') hIX ht hk (by rw [eTk]; exact hal) (by
          rw [e3]
          rcases hr with q | q | q
          · exact Or.inl q
          · exact Or.inr (Or.inl q)
          · exact Or.inr (Or.inr ⟨q.1, q.2.1, sR.2.2.2.2.2 r ((hF r).mpr (Rc.root rfl q.1 q.2.1))⟩)) (fun h9 => (hF r).mpr (Rc.root rfl h9 r33)) sR.2.2.2.2.2 (fun y z hy he h9 h33 => by
          rw [sR.1] at he
          exact (hF z).mpr (((hF y).mp hy).next he h9 h33)) hc1 (by rw [eTk]; exact hc3)
      obtain ⟨a1, a2, a3, a4, a5, a6, a7⟩ := id hC1
      have m10 : (cT μ2 k).1 10 1 = nI mc := by rw [a3.1, eTk]; exact emc
      have o2 := oneC_A (μ := μ2) (k := 34) (j := mc) (v := nI pr) hk (by omega) (by omega)
      have o3 := oneC_F (μ := setA μ2 (34 + 17 * k) mc (nI pr)) (k := 33) (j := 1) (v := nI (mc + 1)) hk (by omega) (by omega)
      rw [o2.2.2.2.1] at o3
      have oo := o2.tr o3
      have k7 : (cT μ2 k).1 0 7 = (cT μ k).1 0 7 := by rw [a3.1, eTk]; rfl
      have hIX3 : InvX c t (setF (setA μ2 (34 + 17 * k) mc (nI pr)) (33 + 17 * k) 1 (nI (mc + 1))) := by
        refine a1.one hk oo (fun sc h8' esc hI' => ?_) (fun _ hY => ⟨fun z => ?_, fun z => absurd (by rw [← k7] at hal; exact hal) z⟩) rfl
        · obtain ⟨⟨b1, -, b2⟩, c2, c3, c4, c5, c6, c7, c8, c9, c10⟩ := hI'
          refine ⟨⟨b1, ⟨mc + 1, by omega, rfl⟩, b2⟩, c2, c3, c4, c5, c6, fun i hi' => ?_, c8, c9, c10⟩
          have hi' : i < (nI (mc + 1)).toNatClampNeg := hi'
          rw [nI_clamp (by omega)] at hi'
          show isR sc (cT μ2 k).2.2 (if 11 = 11 ∧ i = mc then nI pr else (cT μ2 k).2.1 11 i)
          by_cases him : i = mc
          · rw [if_pos ⟨rfl, him⟩]
            rw [esc, nI_clamp (by omega)] at pok
            exact ⟨pr, pok, rfl⟩
          · rw [if_neg (fun z => him z.2)]
            exact c7 i (by rw [m10, nI_clamp (by omega)]; omega)
        · exact hY.1 z
      have hT3 := oo.2.2.2.1
      have t3 : (cT (setF (setA μ2 (34 + 17 * k) mc (nI pr)) (33 + 17 * k) 1 (nI (mc + 1))) t).1 0 7 = 1 ∧ (cT (setF (setA μ2 (34 + 17 * k) mc (nI pr)) (33 + 17 * k) 1 (nI (mc + 1))) t).1 6 2 = nI (e + 1) ∧ (cT (setF (setA μ2 (34 + 17 * k) mc (nI pr)) (33 + 17 * k) 1 (nI (mc + 1))) t).1 0 8 = (cT μ t).1 0 8 ∧ (cT (setF (setA μ2 (34 + 17 * k) mc (nI pr)) (33 + 17 * k) 1 (nI (mc + 1))) t).1 0 9 = (cT μ t).1 0 9 ∧ (cT (setF (setA μ2 (34 + 17 * k) mc (nI pr)) (33 + 17 * k) 1 (nI (mc + 1))) t).2.1 8 = (cT μ t).2.1 8 := by
        by_cases hkt : k = t
        · subst hkt
          rw [hT3]
          refine ⟨?_, ?_, ?_, ?_, ?_⟩
          · show (cT μ2 k).1 0 7 = 1
            rw [a3.1]; exact sR.2.1
          · show (cT μ2 k).1 6 2 = nI (e + 1)
            rw [a3.1]; exact sR.2.2.1
          · show (cT μ2 k).1 0 8 = _
            rw [a3.1]; exact sR.2.2.2.1
          · show (cT μ2 k).1 0 9 = _
            rw [a3.1]; exact sR.2.2.2.2.1
          · show (cT μ2 k).2.1 8 = _
            rw [a3.2 8 (by omega), sR.1]
        · rw [oo.2.2.1 t ht (Ne.symm hkt), a2.2.2.1 t ht (Ne.symm hkt)]
          exact ⟨sR.2.1, sR.2.2.1, sR.2.2.2.1, sR.2.2.2.2.1, by rw [sR.1]⟩
      have hC3 : Ctx c t (e + 1) (setF (setA μ2 (34 + 17 * k) mc (nI pr)) (33 + 17 * k) 1 (nI (mc + 1))) := ⟨hIX3, ht, t3.1, t3.2.1, h6⟩
      have main := pushT (x := 1) (wc := fun μ' Q => wp_Stk_take t μ' (fun x19 μ18 => wp_Stk_putTruth t 1 μ18 (fun μ20 => Q μ20))) hC3 (fun Q hq => take_ok (by rw [dep_c]; exact hC3.2.2.2.1) (by omega) (truth_ok popM_d (by omega) (Or.inr rfl) hq))
      rw [t3.2.2.1, t3.2.2.2.1, t3.2.2.2.2] at main
      refine OpOut.pre (μ := μ) main (oC.2.2.2.2.tr (a2.2.2.2.2.tr oo.2.2.2.2)) (by rw [oo.1, a2.1, oC.1]) (fun p hp => by rw [oo.2.1 p hp, a2.2.1 p hp, oC.2.1 p hp]) (fun Q hq => cw2 ⟨fun hh => absurd hh z1, fun _ => ⟨fun hh => absurd hh z1, fun _ => wcp _ ?_⟩⟩) (fun μr hr2 hs => ?_)
      · refine line_add (cnt := mc) ((cTF (by omega) (by omega)).trans m10) hmc4 (by decide) ?_
        rw [show 33 + 17 * k + 1 = 34 + 17 * k by omega]; exact hq
      · obtain ⟨f, μr', b1, b2, b3, b4, b5, b6, b7⟩ := rw2 μr hr2 hs
        obtain ⟨μr2, hD, gcp⟩ := rcp f b1 μr' b4 b2
        obtain ⟨d1, d2, d3, d4, d5⟩ := id hD
        have x116 : μr'.2.1 116 k = nI mc := by
          rw [rVs (k := 116) rfl, ← (b4.2.1 k hk).2.1.2.1.2.2.2.1, eTk]; exact emc
        have oR : oneR k μr2 (setA (setA μr2 115 (4 * k + mc) (enc k pr)) 116 k (nI (mc + 1))) := (oneR_a (k := 115) (i := mc) hk rfl (show mc < 4 by omega) (by decide) (by omega)).tr (oneR_s (k := 116) rfl rfl (by omega))
        have hV : rV (setA (setA μr2 115 (4 * k + mc) (enc k pr)) 116 k (nI (mc + 1))) k = pF (pA (rV μr2 k) 115 mc (enc k pr)) 116 (nI (mc + 1)) := by
          rw [rV_s (k := 116) rfl rfl, show rV (setA μr2 115 (4 * k + mc) (enc k pr)) k = pA (rV μr2 k) 115 mc (enc k pr) from rV_a (k := 115) rfl (show mc < 4 by omega)]
        have hml : ∀ {B : TB} {S : PB}, B.1 10 1 = nI mc → RT k B S → RT k (bF (bA B 11 mc (nI pr)) 10 1 (nI (mc + 1))) (pF (pA S 115 mc (enc k pr)) 116 (nI (mc + 1))) := by
          intro B S hB hR
          obtain ⟨x1, ⟨y1, y2, y3, y4, y5, y6⟩, x3, x4, x5, x6, x7⟩ := hR
          refine ⟨x1, ⟨y1, y2, y3, rfl, y5, y6⟩, x3, x4, x5, fun i hi' => ?_, x7⟩
          have hi' : i < (nI (mc + 1)).toNatClampNeg := hi'
          rw [nI_clamp (by omega)] at hi'
          show (if 115 = 115 ∧ i = mc then enc k pr else S.2 115 i) = enc k (if 11 = 11 ∧ i = mc then nI pr else B.2.1 11 i).toNatClampNeg
          by_cases him : i = mc
          · rw [if_pos ⟨rfl, him⟩, if_pos ⟨rfl, him⟩, nI_clamp (by omega)]
          · rw [if_neg (fun z => him z.2), if_neg (fun z => him z.2)]
            exact x6 i (by rw [hB, nI_clamp (by omega)]; omega)
        have hR3 : R2X t (setF (setA μ2 (34 + 17 * k) mc (nI pr)) (33 + 17 * k) 1 (nI (mc + 1))) (setA (setA μr2 115 (4 * k + mc) (enc k pr)) 116 k (nI (mc + 1))) := by
          refine d1.one a1 hk oo oR ⟨fun hkt => ?_, ?_⟩ (fun a z q1 q2 q3 q4 => ?_)
          · rw [hV]; exact hml m10 ((d1.2.1 k hk).1 hkt)
          · rw [hV]
            have := hml (B := bF (cT μ2 k) 0 9 ((rV μr2 k).1 108)) m10 (d1.2.1 k hk).2.1
            exact this
          · show (if a = 11 ∧ z = mc then nI pr else (cT μ2 k).2.1 a z) = _
            rw [if_neg (by omega)]
        have p108 : (setA (setA μr2 115 (4 * k + mc) (enc k pr)) 116 k (nI (mc + 1))).2.1 108 t = μr.2.1 108 t := by rw [a_o (by decide), a_o (by decide), d5 108 (by decide)]; exact b6
        refine ⟨setA (setA μr2 115 (4 * k + mc) (enc k pr)) 116 k (nI (mc + 1)), fun Q hq => b7 Q ⟨fun hh => absurd hh z1, fun _ => ⟨in4 hk, gcp _ ?_⟩⟩, (b3.tr d4.2.2.2.2).tr oR.2.2.2.2, hR3, Hsh_rows b5 (by rw [t3.2.1, sR.2.2.1]) (by rw [t3.2.2.2.2, sR.1]) ?_ ?_ ?_, p108⟩
        · rw [cl4 hk, x116, show ((4 : Int32) * nI k + nI mc).toNatClampNeg = 4 * k + mc from ix_cl (w := 4) hk (by omega) (by omega)]
          refine ⟨ix_le (w := 4) hk (by omega) rfl (by omega), fun μ14 e14 => ⟨in4 hk, in4 hk, fun μ17 e17 => ⟨fun hh => absurd hh z1, fun _ => ?_⟩⟩⟩
          have z116 : μ14.2.1 116 k = nI mc := by rw [e14, a_o (by decide), d5 116 (by decide)]; exact x116
          rw [z116, nI_1] at e17
          rw [e17, e14]; exact hq
        · rw [a_o (by decide), a_o (by decide), d5 107 (by decide)]
        · rw [a_o (by decide), a_o (by decide), d5 108 (by decide)]
        · rw [a_o (by decide), a_o (by decide), d4.2.2.2.1 94 (by decide)]
  · have main := pushT (x := 0) (wc := fun μ' Q => wp_Host_sendTo_j79 t k (nI r) F μ' Q) h (fun Q hq => cno h hq)
    refine OpOut.pre (μ := μ) main refEq.rf rfl (fun _ _ => rfl) (fun Q hq => cw (alive_c (fun ha => ⟨fun hh => absurd hh z1, fun _ => full_c c33 hmc (by decide) ?_⟩) (fun _ => ⟨fun _ => hq, fun hh => absurd rfl hh⟩))) (fun μr hr2 hs => ?_)
    · rw [if_neg (fun q => hgo ⟨ha, q⟩)]
      exact ⟨fun _ => hq, fun hh => absurd hh z1⟩
    · obtain ⟨g, f, hfl, q1, q2, q3⟩ := tcp μr hr2 hs
      have j47 : ∀ {Q : Int32 → Mu → Prop}, wp_Mod_become (nI t) (1 : Int32) 0 (setG (stM μr g) 102 f) (fun μ8 => Q (0 : Int32) μ8) → wp_Mod_send_j47 (nI t) (nI k) (enc t r) μr (fun x24 μ23 => Q x24 μ23) := fun {Q} hq => q3 _ ⟨fun _ => ⟨fun _ => ⟨fun _ => hq, fun hh => absurd rfl hh⟩, fun hh => absurd rfl hh⟩, fun hh => absurd rfl hh⟩
      refine ⟨_, fun Q hq => rw1 hr2 (alive_r hk (st_r hr2 hk) (fun ha => ⟨fun hh => absurd hh z1, fun _ => ⟨in4 hk, fun _ => j47 hq, fun hh => ?_⟩⟩) (fun _ => ⟨fun _ => j47 hq, fun hh => absurd rfl hh⟩)), (tc_one (t := t)).2.2.2.2, q1, q2, by rw [tc_arr (by decide) (by decide)]⟩
      rw [cl4 hk, r116 μr hr2] at hh
      exact absurd (nI_le (a := 4) (Nat.le_of_not_lt fun q => hgo ⟨ha, q⟩) (by omega)) hh
