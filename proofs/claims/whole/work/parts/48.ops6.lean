/-! START and STOP. -/
theorem OpOut.pre {c t : Nat} {l : List Bool} {p q : Int32} {μ μ' : Mu} {wc wc' : Mu → (Mu → Prop) → Prop} {wr wr' : Mu → (Int32 → Mu → Prop) → Prop} (h : OpOut c t l p q μ' wc' wr') (h1 : refEq μ μ') (h2 : cG μ' = cG μ) (h3 : ∀ p, p < 4 → cP μ' p = cP μ p) (hw : ∀ Q : Mu → Prop, wc' μ' Q → wc μ Q)
    (hr : ∀ μr, R2X t μ μr → Hsh t μ μr → ∃ μr', (∀ Q : Int32 → Mu → Prop, wr' μr' Q → wr μr Q) ∧ clsEq μr μr' ∧ R2X t μ' μr' ∧ Hsh t μ' μr' ∧ μr'.2.1 108 t = μr.2.1 108 t) : OpOut c t l p q μ wc wr := by
  obtain ⟨μ1, a1, a2, a3, a4, a5, a6, a7⟩ := h
  refine ⟨μ1, fun Q hq => hw Q (a1 Q hq), h1.tr a2, a3, a4.trans h2, fun p hp => (a5 p hp).trans (h3 p hp), a6, fun μr hr2 hs => ?_⟩
  obtain ⟨μr', b1, b2, b3, b4, b5⟩ := hr μr hr2 hs
  obtain ⟨μ2, c1, c2, c3, c4⟩ := a7 μr' b3 b4
  exact ⟨μ2, fun Q hq => b1 _ (c1 Q hq), b2.tr c2, c3, c4.trans b5⟩
theorem OpOut.swap {c t : Nat} {l : List Bool} {p q : Int32} {μ ν μ3 : Mu} {wc : Mu → (Mu → Prop) → Prop} {wr : Mu → (Int32 → Mu → Prop) → Prop} (h : OpOut c t l p q μ (fun _ Q => Q ν) wr) (e1 : cG μ3 = cG ν) (e2 : ∀ u, u < 4 → cT μ3 u = cT ν u) (e3 : ∀ p, p < 4 → cP μ3 p = cP ν p) (ht : t < 4) (hre : refEq μ μ3) (hw : ∀ Q : Mu → Prop, Q μ3 → wc μ Q) : OpOut c t l p q μ wc wr := by
  obtain ⟨μ1, a1, a2, a3, a4, a5, a6, a7⟩ := h
  have hν : ν = μ1 := a1 (fun z => z = μ1) rfl
  subst hν
  refine ⟨μ3, hw, hre, ?_, e1.trans a4, fun p hp => (e3 p hp).trans (a5 p hp), by rw [e2 t ht]; exact a6, fun μr hr2 hs => ?_⟩
  · obtain ⟨len, sc, s, b1, b2, b3, b4, b5, b6⟩ := a3
    refine ⟨len, sc, s, by rw [e1]; exact b1, by rw [e1]; exact b2, by rw [e1]; exact b3, fun u hu => ?_, fun p hp => by rw [e3 p hp]; exact b5 p hp, by rw [e2 0 (by omega), e2 1 (by omega), e2 2 (by omega), e2 3 (by omega)]; exact b6⟩
    rw [e2 u hu]
    exact ⟨(b4 u hu).1, fun hne => IY.prg e3 ((b4 u hu).2 hne)⟩
  · obtain ⟨μ2, c1, c2, c3, c4⟩ := a7 μr hr2 hs
    refine ⟨μ2, c1, c2, ⟨by rw [e1]; exact c3.1, fun u hu => by rw [e2 u hu, e1]; exact c3.2.1 u hu, fun p hp => by rw [e3 p hp]; exact c3.2.2 p hp⟩, c4⟩
theorem may_dec : ∀ v, v < 8 → ((nI v &&& (1 : Int32) = 0 ↔ nI v - nI v / (2 : Int32) * (2 : Int32) = 0) ∧ (nI v &&& (2 : Int32) = 0 ↔ nI v / (2 : Int32) - nI v / (2 : Int32) / (2 : Int32) * (2 : Int32) = 0) ∧ (nI v &&& (4 : Int32) = 0 ↔ ¬ (4 : Int32) ≤ nI v)) := by decide +kernel
/-- what tenant t may do to k -/
theorem may_v {c t d k : Nat} {μ : Mu} (h : Ctx c t d μ) (hk : k < 4) : ∃ v, v < 8 ∧ μ.2.1 (39 + 17 * t) k = nI v ∧ ∀ μr, R2X t μ μr → μr.2.1 121 (4 * t + k) = nI v := by
  obtain ⟨v, hv, ev⟩ := (h.1.it h.2.1).2.2.2.2.2.2.2.2.2 k hk
  refine ⟨v, by omega, (cTA (by omega) (by omega)).trans ev, fun μr hr => ?_⟩
  rw [show μr.2.1 121 (4 * t + k) = (rV μr t).2 121 k from rVa (k := 121) (show k < 4 from hk), ← (hr.2.1 t h.2.1).2.1.2.2.1 k hk]
  exact ev
theorem may_ok {t k : Nat} {w v : Int32} {μ : Mu} {Q : Int32 → Mu → Prop} (hk : k < 4) (hv : μ.2.1 (39 + 17 * t) k = v) (hq : (v &&& w = 0 → Q 0 μ) ∧ (¬ v &&& w = 0 → Q 1 μ)) : wp_Ten_may t w (nI k) μ Q := by
  refine ⟨in4 hk, ?_⟩
  rw [cl4 hk, hv]
  exact hq
theorem launch_factX {c t k : Nat} {μ μr : Mu} (hi : InvX c t μ) (hr : R2X t μ μr) (hk : k < 4) : μr.2.1 106 k = μ.1 (23 + 17 * k) 7 ∧ (μr.2.1 104 k = 0 ↔ μ.1 (23 + 17 * k) 10 ≤ 0) ∧ ∀ p, p < 4 → μr.2.1 96 p = μ.1 (3 + 5 * p) 6 := by
  obtain ⟨r, s2, c2, hr1, hs1, hc1, hc0, e1, e2, e3⟩ := (hi.it hk).2.1
  refine ⟨?_, ?_, fun p hp => ?_⟩
  · rw [rVs (k := 106) rfl, ← (hr.2.1 k hk).2.1.1.1, cTF (by omega) (by omega)]; rfl
  · rw [rVs (k := 104) rfl, ← (hr.2.1 k hk).2.1.2.1.1, cTF (by omega) (by omega)]
    show (cT μ k).1 1 5 = 0 ↔ (cT μ k).1 0 10 ≤ 0
    rw [e1, e3, le0_iff (by omega), ne0_iff (by omega)]
    exact hc0
  · rw [rVs (k := 96) rfl, ← (hr.2.2 p hp).2.1]; rfl
theorem launch_yesX {c t k : Nat} {μ μr : Mu} (hi : InvX c t μ) (hr : R2X t μ μr) (hk : k < 4) {a : Int32} {Q : Int32 → Mu → Prop} (h : Bg μ k a) (hq : Q 1 (setA (setA (setA μr 106 k 1) 107 k a) 108 k 0)) : wp_Mod_launch (nI k) a μr Q := by
  obtain ⟨f1, f2, f3⟩ := launch_factX hi hr hk
  obtain ⟨h1, h2, p, hp, rfl, h3⟩ := h
  refine fou_ok hk ⟨fun h => absurd h z1, fun _ => fou_ok hp ⟨fun h => absurd h z1, fun _ => ⟨in4 hk, fun h => ?_, fun _ => ⟨in4 hk, fun h => ?_, fun _ => ⟨in4 hp, fun _ => ⟨in4 hk, fun μ9 e9 => ⟨in4 hk, fun μ11 e11 => ⟨in4 hk, fun μ13 e13 => ?_⟩⟩⟩, fun h => ?_⟩⟩⟩⟩⟩
  · rw [cl4 hk, f1] at h; exact absurd h1 h
  · rw [cl4 hk] at h; exact absurd (f2.mp h) h2
  · subst e9 e11 e13; rw [cl4 hk]; exact hq
  · rw [cl4 hp, f3 p hp] at h; exact absurd h h3
theorem launch_noX {c t k : Nat} {μ μr : Mu} (hi : InvX c t μ) (hr : R2X t μ μr) (hk : k < 4) {a : Int32} {Q : Int32 → Mu → Prop} (h : ¬ Bg μ k a) (hq : Q 0 μr) : wp_Mod_launch (nI k) a μr Q := by
  obtain ⟨f1, f2, f3⟩ := launch_factX hi hr hk
  refine fou_ok hk ⟨fun h => absurd h z1, fun _ => ?_⟩
  rcases arg4 a with hb | ⟨p, hp, rfl⟩
  · exact fou_bad hb ⟨fun _ => hq, fun h => absurd rfl h⟩
  · refine fou_ok hp ⟨fun h => absurd h z1, fun _ => ⟨in4 hk, fun _ => hq, fun h1 => ⟨in4 hk, fun _ => hq, fun h2 => ⟨in4 hp, fun h3 => ?_, fun _ => hq⟩⟩⟩⟩
    rw [cl4 hk] at h1 h2
    rw [cl4 hp] at h3
    exact absurd ⟨by rw [← f1]; exact h1, fun h4 => h2 (f2.mpr h4), p, hp, rfl, by rw [← f3 p hp]; exact h3⟩ h
/-- another tenant begins, in the midst of t's instruction -/
theorem begin_X {c t k : Nat} {μ : Mu} (hi : InvX c t μ) (hk : k < 4) (hkt : k ≠ t) {a : Int32} (h : Bg μ k a) : oneC k (bF (bF (cT μ k) 0 8 a) 0 7 1) μ (setF (setF μ (23 + 17 * k) 8 a) (23 + 17 * k) 7 1) ∧ InvX c t (setF (setF μ (23 + 17 * k) 8 a) (23 + 17 * k) 7 1) ∧
    ∀ μr, R2X t μ μr → oneR k μr (setA (setA (setA μr 106 k 1) 107 k a) 108 k 0) ∧ R2X t (setF (setF μ (23 + 17 * k) 8 a) (23 + 17 * k) 7 1) (setA (setA (setA μr 106 k 1) 107 k a) 108 k 0) := by
  obtain ⟨h1, h2, p, hp, rfl, h3⟩ := h
  have o1 := oneC_F (μ := μ) (k := 23) (j := 8) (v := nI p) hk (by omega) (by omega)
  have o2 := oneC_F (μ := setF μ (23 + 17 * k) 8 (nI p)) (k := 23) (j := 7) (v := 1) hk (by omega) (by omega)
  rw [o1.2.2.2.1] at o2
  have oo := o1.tr o2
  obtain ⟨len, sc, s, -, -, -, hT, hPr, -⟩ := id hi
  have hst : (cT μ k).1 0 7 = 0 := (cTF (μ := μ) (t := k) (k := 23) (j := 7) (by omega) (by omega)).symm.trans h1
  have hpos : (cT μ k).1 0 9 = 0 := (hT k hk).1.2.2.2.1 hst
  have hidle := ((hT k hk).2 hkt).2 (by rw [hst]; decide)
  obtain ⟨n, hn, hne, h01, hops, hsnd⟩ := hPr p hp
  have hc1 : (cP μ p).1 6 = 1 := h01.resolve_left h3
  obtain ⟨hn0, hs0, -⟩ := hsnd hc1
  have hIX : InvX c t (setF (setF μ (23 + 17 * k) 8 (nI p)) (23 + 17 * k) 7 1) := by
    refine hi.one hk oo (fun sc _ _ hI => ⟨hI.1, hI.2.1, ⟨p, by omega, rfl⟩, fun h => absurd h (show ¬ (1 : Int32) = 0 by decide), hI.2.2.2.2⟩) (fun _ hY => ?_) rfl
    refine ⟨fun _ => ⟨p, 0, n, hp, rfl, hc1, hne, ⟨hn0, hn⟩, hpos, ?_⟩, fun h => absurd (Or.inl rfl) h⟩
    show (cP μ p).2 2 0 = nI (codeL (tys ((cT μ k).2.1 8) ((cT μ k).1 6 2).toNatClampNeg))
    rw [hidle.1, hs0]
    rfl
  refine ⟨oo, hIX, fun μr hr => ?_⟩
  have oR : oneR k μr (setA (setA (setA μr 106 k 1) 107 k (nI p)) 108 k 0) := ((oneR_s (k := 106) rfl rfl (by omega)).tr (oneR_s (k := 107) rfl rfl (by omega))).tr (oneR_s (k := 108) rfl rfl (by omega))
  have hV : rV (setA (setA (setA μr 106 k 1) 107 k (nI p)) 108 k 0) k = pF (pF (pF (rV μr k) 106 1) 107 (nI p)) 108 0 := by rw [rV_s (k := 108) rfl rfl, rV_s (k := 107) rfl rfl, rV_s (k := 106) rfl rfl]
  have hRT : RT k (bF (bF (cT μ k) 0 8 (nI p)) 0 7 1) (rV (setA (setA (setA μr 106 k 1) 107 k (nI p)) 108 k 0) k) := by
    rw [hV]
    have h := (hr.2.1 k hk).1 hkt
    exact ⟨⟨rfl, rfl, hpos, h.1.2.2.2.1, h.1.2.2.2.2.1, h.1.2.2.2.2.2⟩, h.2⟩
  exact ⟨oR, hr.one hi hk oo oR ⟨fun _ => hRT, RTg.of hRT⟩ (fun _ _ _ _ _ _ => rfl)⟩
theorem Hsh_other {t k : Nat} {B : TB} {μ μ' μr μr' : Mu} (ht : t < 4) (hkt : k ≠ t) (o : oneC k B μ μ') (oR : oneR k μr μr') (h : Hsh t μ μr) : Hsh t μ' μr' := by
  have e1 := o.2.2.1 t ht (Ne.symm hkt)
  have e2 := oR.2.2.1 t ht (Ne.symm hkt)
  intro d ed hd h0
  rw [e1] at ed
  obtain ⟨p, pos, hp, hpos, f7, f8, f94⟩ := h d ed hd h0
  refine ⟨p, pos, hp, hpos, ?_, ?_, ?_⟩
  · rw [rVs (k := 107) rfl, e2, ← rVs (k := 107) rfl]; exact f7
  · rw [rVs (k := 108) rfl, e2, ← rVs (k := 108) rfl]; exact f8
  · rw [oR.2.2.2.1 94 (by omega), e1]; exact f94
theorem pos_other {t k : Nat} {μr μr' : Mu} (ht : t < 4) (hkt : k ≠ t) (oR : oneR k μr μr') : μr'.2.1 108 t = μr.2.1 108 t := by
  rw [rVs (k := 108) rfl, oR.2.2.1 t ht (Ne.symm hkt), ← rVs (k := 108) rfl]
theorem Ctx_other {c t k d : Nat} {B : TB} {μ μ' : Mu} (h : Ctx c t d μ) (hkt : k ≠ t) (o : oneC k B μ μ') (hi : InvX c t μ') : Ctx c t d μ' ∧ cT μ' t = cT μ t := by
  have e1 := o.2.2.1 t h.2.1 (Ne.symm hkt)
  exact ⟨⟨hi, h.2.1, by rw [e1]; exact h.2.2.1, by rw [e1]; exact h.2.2.2.1, h.2.2.2.2⟩, e1⟩
theorem Bg_pop {μ : Mu} {t e k : Nat} {a : Int32} : Bg (popM μ t e) k a ↔ Bg μ k a := by
  have e1 : ∀ x j, x ≠ 29 + 17 * t → (popM μ t e).1 x j = μ.1 x j := fun x j hx => if_neg fun q => hx q.1
  unfold Bg
  rw [e1 _ _ (by omega), e1 _ _ (by omega)]
  constructor
  · rintro ⟨a1, a2, p, hp, a3, a4⟩
    rw [e1 _ _ (by omega)] at a4
    exact ⟨a1, a2, p, hp, a3, a4⟩
  · rintro ⟨a1, a2, p, hp, a3, a4⟩
    refine ⟨a1, a2, p, hp, a3, ?_⟩
    rw [e1 _ _ (by omega)]; exact a4
theorem op_23 {c t e k : Nat} {μ : Mu} (h : Ctx c t (e + 1) μ) (hk : k < 4) (h1 : (cT μ t).2.1 8 e = 0) : OpOut c t (false :: tys ((cT μ t).2.1 8) e) ((cT μ t).1 0 8) ((cT μ t).1 0 9) μ (wp_Host_startOther t (nI k)) (wp_Mod_traffic (nI t) (nI 23) (nI k)) := by
  obtain ⟨hi, ht, hs1, hd, h6⟩ := id h
  have hdc : μ.1 (29 + 17 * t) 2 = nI (e + 1) := by rw [dep_c]; exact hd
  obtain ⟨v, hv, ev, er⟩ := may_v h hk
  have hix : ((4 : Int32) * nI t + nI k).toNatClampNeg = 4 * t + k := ix_cl (w := 4) ht hk (by omega)
  have way : ∀ {μr : Mu} {Q : Int32 → Mu → Prop}, wp_Mod_start (nI t) (nI k) μr (fun x24 μ23 => Q x24 μ23) → wp_Mod_traffic (nI t) (nI 23) (nI k) μr Q := fun hq => ⟨fun _ => ⟨fun hh => absurd rfl hh, fun _ => hq⟩, fun hh => absurd hh (by decide)⟩
  by_cases hm : nI v &&& (2 : Int32) = 0
  · refine OpOut.fail (e := 10) h (by decide) (by decide) (by decide) ⟨μ, (cT μ t).1 6 2, by rw [bF_self rfl]; exact oneC.rf, fun Q hq => may_ok hk ev ⟨fun _ => ⟨fun _ => end_cls hq, fun hh => absurd rfl hh⟩, fun hh => absurd hm hh⟩⟩ (fun μr hr2 Q hq => way ⟨ix_le (w := 4) ht hk rfl (by omega), fun hh => ?_, fun _ => hq⟩)
    rw [hix, er μr hr2] at hh; exact absurd ((may_dec v hv).2.1.mp hm) hh
  have evr : ∀ μr, R2X t μ μr → μr.2.1 113 (6 * t + (e + 1 - 1 - 0)) = (cT μ t).2.1 7 e := fun μr hr => by
    rw [show e + 1 - 1 - 0 = e by omega, stk_r h hr (show e < e + 1 by omega), if_pos h1]
  have rw1 : ∀ {μr : Mu} {Q : Int32 → Mu → Prop}, R2X t μ μr → wp_Mod_launch (nI k) ((cT μ t).2.1 7 e) μr (fun x5 μ4 => (((x5 = 0) → wp_Mod_become (nI t) (1 : Int32) (0 : Int32) μ4 (fun μ6 => Q (0 : Int32) μ6)) ∧ ((¬ x5 = 0) → wp_Mod_become (nI t) (1 : Int32) (1 : Int32) μ4 (fun μ7 => Q (0 : Int32) μ7)))) → wp_Mod_traffic (nI t) (nI 23) (nI k) μr Q := fun {μr Q} hr2 hq => way ⟨ix_le (w := 4) ht hk rfl (by omega), fun _ => value_ok (i := 0) ht (dep_r h hr2) (by omega) h6 (by rw [evr μr hr2]; exact hq), fun hh => by
    rw [hix, er μr hr2] at hh; exact absurd ((may_dec v hv).2.1.mpr hh) hm⟩
  have cw : ∀ {Q : Mu → Prop}, wp_Host_begin k ((cT μ t).2.1 7 e) (popM μ t e) (fun x9 μ8 => wp_Stk_putTruth t x9 μ8 (fun μ10 => Q μ10)) → wp_Host_startOther t (nI k) μ Q := fun {Q} hq => may_ok hk ev ⟨fun hh => absurd hh hm, fun _ => ⟨fun hh => absurd hh z1, fun _ => take_ok hdc (by omega) (by rw [stk_c]; exact ⟨in4 hk, by rw [cl4 hk]; exact hq⟩)⟩⟩
  have o1 := popM_one (μ := μ) (d := e) ht
  by_cases hb : Bg μ k ((cT μ t).2.1 7 e)
  · have hkt : k ≠ t := by
      rintro rfl
      have h2 := hb.1
      rw [cTF (by omega) (by omega)] at h2
      rw [show (cT μ k).1 (23 - 23) 7 = 1 from hs1] at h2
      exact absurd h2 (by decide)
    obtain ⟨oo, hIX, hRX⟩ := begin_X hi hk hkt hb
    obtain ⟨hC, eT⟩ := Ctx_other h hkt oo hIX
    have main := OpOut.push (wc := fun _ Q => Q (pushM (popM (setF (setF μ (23 + 17 * k) 8 ((cT μ t).2.1 7 e)) (23 + 17 * k) 7 1) t e) t e 1 0)) (wr := fun μr Q => wp_Mod_become (nI t) (1 : Int32) (1 : Int32) μr (fun μ7 => Q (0 : Int32) μ7)) (e := e) (v := 1) (b := 0) (l := false :: tys ((cT μ t).2.1 8) e) hC (by omega) (by omega) (Or.inl rfl) ⟨_, by
        have p1 := popM_one (μ := setF (setF μ (23 + 17 * k) 8 ((cT μ t).2.1 7 e)) (23 + 17 * k) 7 1) (d := e) ht
        have p2 := pushM_one (μ := popM (setF (setF μ (23 + 17 * k) 8 ((cT μ t).2.1 7 e)) (23 + 17 * k) 7 1) t e) (d := e) (v := 1) (b := 0) ht
        rw [p1.2.2.2.1] at p2
        exact p1.tr p2, fun Q hq => hq⟩ (by rw [eT]; rfl) (fun μr hr => ⟨1, rfl, fun Q hq => become_ok (n := 1) ht (dep_r hC hr) (by omega) (by omega) (by rw [show e + 1 - 1 = e by omega]; exact hq)⟩)
    rw [eT] at main
    have pre := OpOut.pre (μ := μ) (wc := fun _ Q => Q (pushM (popM (setF (setF μ (23 + 17 * k) 8 ((cT μ t).2.1 7 e)) (23 + 17 * k) 7 1) t e) t e 1 0)) (wr := wp_Mod_traffic (nI t) (nI 23) (nI k)) main oo.2.2.2.2 oo.1 oo.2.1 (fun Q hq => hq) (fun μr hr hs => ⟨_, fun Q hq => rw1 hr (launch_yesX hi hr hk hb ⟨fun hh => absurd hh z1, fun _ => hq⟩), (hRX μr hr).1.2.2.2.2, (hRX μr hr).2, Hsh_other ht hkt oo (hRX μr hr).1 hs, pos_other ht hkt (hRX μr hr).1⟩)
    -- the class takes first, then begins, then puts
    have q2 := (begin_X (c := c) (t := t) (μ := popM μ t e) (k := k) (hi.one ht o1 (fun sc _ _ hI => IT_pop hI hd h6 (by omega)) (fun hne => absurd rfl hne) rfl) hk hkt (Bg_pop.mpr hb)).1
    have q3 := pushM_one (μ := setF (setF (popM μ t e) (23 + 17 * k) 8 ((cT μ t).2.1 7 e)) (23 + 17 * k) 7 1) (d := e) (v := 1) (b := 0) ht
    have n1 := popM_one (μ := setF (setF μ (23 + 17 * k) 8 ((cT μ t).2.1 7 e)) (23 + 17 * k) 7 1) (d := e) ht
    have n2 := pushM_one (μ := popM (setF (setF μ (23 + 17 * k) 8 ((cT μ t).2.1 7 e)) (23 + 17 * k) 7 1) t e) (d := e) (v := 1) (b := 0) ht
    refine OpOut.swap pre ?_ (fun u hu => ?_) (fun p hp => ?_) ht (o1.2.2.2.2.tr (q2.2.2.2.2.tr q3.2.2.2.2)) (fun Q hq => cw (begin_yes (Bg_pop.mpr hb) (truth_ok ?_ (by omega) (Or.inr rfl) hq)))
    · rw [q3.1, q2.1, o1.1, n2.1, n1.1, oo.1]
    · by_cases hut : u = t
      · subst hut
        rw [q3.2.2.2.1, n2.2.2.2.1, n1.2.2.2.1, q2.2.2.1 u hu (Ne.symm hkt), o1.2.2.2.1, oo.2.2.1 u hu (Ne.symm hkt)]
      · rw [q3.2.2.1 u hu hut, n2.2.2.1 u hu hut, n1.2.2.1 u hu hut]
        by_cases huk : u = k
        · subst huk
          rw [q2.2.2.2.1, oo.2.2.2.1, o1.2.2.1 u hu hut]
        · rw [q2.2.2.1 u hu huk, oo.2.2.1 u hu huk, o1.2.2.1 u hu hut]
    · rw [q3.2.1 p hp, q2.2.1 p hp, o1.2.1 p hp, n2.2.1 p hp, n1.2.1 p hp, oo.2.1 p hp]
    · rw [dep_c, q2.2.2.1 t ht (Ne.symm hkt), o1.2.2.2.1]; rfl
  · have p2 := pushM_one (μ := popM μ t e) (d := e) (v := 0) (b := 0) ht
    rw [o1.2.2.2.1] at p2
    exact OpOut.push (e := e) (v := 0) (b := 0) h (by omega) (by omega) (Or.inl rfl) ⟨_, o1.tr p2, fun Q hq => cw (begin_no (fun q => hb (Bg_pop.mp q)) (truth_ok popM_d (by omega) (Or.inl rfl) hq))⟩ rfl (fun μr hr => ⟨0, rfl, fun Q hq => rw1 hr (launch_noX hi hr hk hb ⟨fun _ => become_ok (n := 1) ht (dep_r h hr) (by omega) (by omega) (by rw [show e + 1 - 1 = e by omega]; exact hq), fun hh => absurd rfl hh⟩)⟩)
