/-- what a reference becomes in the copy -/
theorem cp_ok {c t k a : Nat} {F : Int64} {μ0 μ1 : Mu} (ht : t < 4) (hk : k < 4) (hC : C1 c t k F μ0 24 μ1) (ha : okR (cG μ0 3).toNatClampNeg (cT μ0 t).2.2 a) (haF : 9 ≤ a → tb F a = true) :
    ∃ pa, (cT μ1 k).2.1 5 a = nI pa ∧ okR (cG μ1 3).toNatClampNeg (cT μ1 k).2.2 pa ∧ pa < 33 ∧ ∀ (fl : Nat → Int32) (μr0 μr1 : Mu), D1 t k F fl μr0 24 μ1 μr1 → (∀ v, v < 104 → (¬ fl v = 0 ↔ ∃ c, c < 24 ∧ v = 24 * t + c ∧ tb F (9 + c) = true)) → ∀ Q : Int32 → Mu → Prop, Q (enc k pa) μr1 → wp_Mod_copied (enc t a) μr1 Q := by
  obtain ⟨a1, a2, a3, a4, a5, a6, a7⟩ := id hC
  have hI := a1.it hk
  have e3 : cG μ1 3 = cG μ0 3 := by rw [a2.1]
  have h8 := a1.sc.1
  rw [← e3] at ha
  have a33 := okR_lt h8 ha
  by_cases h9 : 9 ≤ a
  · obtain ⟨q, q1, q2, q3, -⟩ := a7 (a - 9) (by omega) (by rw [show 9 + (a - 9) = a by omega]; exact haF h9)
    rw [show 9 + (a - 9) = a by omega] at q2
    refine ⟨9 + q, q2, Or.inr (Or.inr ⟨by omega, by omega, q3⟩), by omega, fun fl μr0 μr1 hd hfl Q hq => ?_⟩
    obtain ⟨e1, e2, e3', -, -⟩ := id hd
    have hN : encN t a = 24 * t + (a - 9) := by unfold encN; rw [if_neg (by omega)]
    have e103 := e3' (a - 9) (by omega) (by rw [show 9 + (a - 9) = a by omega]; exact haF h9)
    rw [show 9 + (a - 9) = a by omega, q2, nI_clamp (by omega)] at e103
    rw [enc_N (by omega), hN]
    have hin : vp_in (nI (24 * t + (a - 9))) 104 := vp_in_nI (by omega) (by decide)
    refine ⟨fun h => absurd h (nI_pos (by omega)), fun _ => ⟨hin, fun h => ?_, fun _ => ⟨hin, ?_⟩⟩⟩
    · rw [nI_clamp (by omega), e2] at h
      exact absurd h ((hfl _ (by omega)).mpr ⟨a - 9, by omega, rfl, by rw [show 9 + (a - 9) = a by omega]; exact haF h9⟩)
    · rw [nI_clamp (by omega), e103]; exact hq
  · refine ⟨a, hI.2.2.2.2.2.2.2.2.1.1 a (by omega), ?_, a33, fun fl μr0 μr1 hd hfl Q hq => ?_⟩
    · rcases ha with h | h | h
      · exact Or.inl h
      · exact Or.inr (Or.inl h)
      · omega
    · obtain ⟨e1, e2, -, -, -⟩ := id hd
      rw [enc_lo (t' := k) (by omega)]
      by_cases h0 : a = 0
      · subst h0
        rw [enc_0] at hq ⊢
        exact ⟨fun _ => hq, fun h => absurd (by decide) h⟩
      · have hN : encN k a = 95 + a := by unfold encN; rw [if_pos (by omega)]
        rw [enc_N h0, hN] at hq ⊢
        refine ⟨fun h => absurd h (nI_pos (by omega)), fun _ => ⟨vp_in_nI (by omega) (by decide), fun _ => hq, fun h => ?_⟩⟩
        rw [nI_clamp (by omega), e2] at h
        obtain ⟨c', h', e, -⟩ := (hfl _ (by omega)).mp h
        omega
theorem IT_set {sc x pa w : Nat} {B : TB} (hw : w = 3 ∨ w = 4) (hx : 9 ≤ x) (h8 : sc ≤ 8) (hp : okR sc B.2.2 pa) (h : IT sc B) : IT sc (bA B w x (nI pa)) := by
  obtain ⟨a1, a2, a3, a4, a5, a6, a7, a8, ⟨a9, a10⟩, a11⟩ := h
  have stay : ∀ a b, (w ≠ a ∨ b ≠ x) → (bA B w x (nI pa)).2.1 a b = B.2.1 a b := fun a b q => if_neg fun z => by omega
  refine ⟨a1, a2, a3, a4, fun i hi => ?_, ⟨?_, ?_⟩, fun i hi => ?_, fun r hr => ?_, ⟨fun r hr => ?_, fun k hk => ?_⟩, fun u hu => ?_⟩
  · rw [stay 8 i (by omega), stay 7 i (by omega)]; exact a5 i hi
  · rw [stay 9 2 (by omega)]; exact a6.1
  · rw [stay 9 3 (by omega)]; exact a6.2
  · rw [stay 11 i (by omega)]; exact a7 i hi
  · obtain ⟨q1, q2, q3, q4⟩ := a8 r hr
    refine ⟨q1, q2, ?_, ?_⟩
    · show isR sc B.2.2 (if 3 = w ∧ r = x then nI pa else B.2.1 3 r)
      split
      · exact ⟨pa, hp, rfl⟩
      · exact q3
    · show isR sc B.2.2 (if 4 = w ∧ r = x then nI pa else B.2.1 4 r)
      split
      · exact ⟨pa, hp, rfl⟩
      · exact q4
  · rw [stay 5 r (by omega)]; exact a9 r hr
  · rw [stay 3 (1 + k) (by omega), stay 4 (1 + k) (by omega)]; exact a10 k hk
  · rw [stay 16 u (by omega)]; exact a11 u hu
theorem RT_set {t q pa w : Nat} {B : TB} {S : PB} (hw : w = 3 ∨ w = 4) (hp : pa < 33) (h : RT t B S) : RT t (bA B w (9 + q) (nI pa)) (pA S (96 + w) q (enc t pa)) := by
  obtain ⟨x1, x2, x3, x4, x5, x6, x7, x8, x9, x10⟩ := h
  have hcell : ∀ c : Nat, (9 + c = 9 + q) ↔ c = q := fun c => by omega
  rcases hw with rfl | rfl
  · refine ⟨x1, x2, x3, x4, x5, x6, x7, x8, x9, fun c hc hb => ?_⟩
    obtain ⟨y1, y2, y3⟩ := x10 c hc hb
    refine ⟨y1, ?_, y3⟩
    show (if 99 = 99 ∧ c = q then enc t pa else S.2 99 c) = enc t (if 3 = 3 ∧ 9 + c = 9 + q then nI pa else B.2.1 3 (9 + c)).toNatClampNeg
    by_cases hh : c = q
    · rw [if_pos ⟨rfl, hh⟩, if_pos ⟨rfl, (hcell c).mpr hh⟩, nI_clamp (by omega)]
    · rw [if_neg (fun z => hh z.2), if_neg (fun z => hh ((hcell c).mp z.2))]; exact y2
  · refine ⟨x1, x2, x3, x4, x5, x6, x7, x8, x9, fun c hc hb => ?_⟩
    obtain ⟨y1, y2, y3⟩ := x10 c hc hb
    refine ⟨y1, y2, ?_⟩
    show (if 100 = 100 ∧ c = q then enc t pa else S.2 100 c) = enc t (if 4 = 4 ∧ 9 + c = 9 + q then nI pa else B.2.1 4 (9 + c)).toNatClampNeg
    by_cases hh : c = q
    · rw [if_pos ⟨rfl, hh⟩, if_pos ⟨rfl, (hcell c).mpr hh⟩, nI_clamp (by omega)]
    · rw [if_neg (fun z => hh z.2), if_neg (fun z => hh ((hcell c).mp z.2))]; exact y3
theorem setrow {c t k q pa w : Nat} {F : Int64} {μ0 μ1 : Mu} (hk : k < 4) (hw : w = 3 ∨ w = 4) (hal : (cT μ0 k).1 0 7 = 1 ∨ (cT μ0 k).1 0 7 = 2) (hC : C1 c t k F μ0 24 μ1) (hq : q < 24) (hn : tb (cT μ0 k).2.2 (9 + q) = false) (hp : okR (cG μ1 3).toNatClampNeg (cT μ1 k).2.2 pa) (hp33 : pa < 33) :
    C1 c t k F μ0 24 (setA μ1 (23 + w + 17 * k) (9 + q) (nI pa)) ∧ cT (setA μ1 (23 + w + 17 * k) (9 + q) (nI pa)) k = bA (cT μ1 k) w (9 + q) (nI pa) ∧ ∀ fl μr0 μr1, D1 t k F fl μr0 24 μ1 μr1 → D1 t k F fl μr0 24 (setA μ1 (23 + w + 17 * k) (9 + q) (nI pa)) (setA μr1 (96 + w) (24 * k + q) (enc k pa)) := by
  obtain ⟨a1, a2, a3, a4, a5, a6, a7⟩ := id hC
  have oo := oneC_A (μ := μ1) (k := 23 + w) (j := 9 + q) (v := nI pa) hk (by omega) (by omega)
  rw [show 23 + w - 23 = w by omega] at oo
  have hT := oo.2.2.2.1
  have e7 : (cT μ1 k).1 0 7 = (cT μ0 k).1 0 7 := by rw [a3.1]
  have hal1 : (cT μ1 k).1 0 7 = 1 ∨ (cT μ1 k).1 0 7 = 2 := by rw [e7]; exact hal
  have stay : ∀ a b, (w ≠ a ∨ b ≠ 9 + q) → (bA (cT μ1 k) w (9 + q) (nI pa)).2.1 a b = (cT μ1 k).2.1 a b := fun a b z => if_neg fun y => by omega
  have hIX : InvX c t (setA μ1 (23 + w + 17 * k) (9 + q) (nI pa)) := a1.one hk oo (fun sc h8 e hI => by
    refine IT_set hw (by omega) h8 ?_ hI
    rw [e, nI_clamp (by omega)] at hp; exact hp) (fun _ hY => ⟨fun z => by
      obtain ⟨p, pos, n, b1, b2, b3, b4, b5, b6, b7⟩ := hY.1 z
      refine ⟨p, pos, n, b1, b2, b3, b4, b5, b6, ?_⟩
      rw [b7, tys_congr (ar' := (bA (cT μ1 k) w (9 + q) (nI pa)).2.1 8) (fun i _ => stay 8 i (by omega))]
      rfl, fun z => absurd hal1 z⟩) rfl
  refine ⟨⟨hIX, ?_, ?_, ?_, ?_, ?_, ?_⟩, hT, fun fl μr0 μr1 hd => ?_⟩
  · rw [hT]; exact a2.tr oo
  · rw [hT]; exact ⟨a3.1, fun a ha => funext fun b => by rw [stay a b (by omega), a3.2 a ha]⟩
  · rw [hT]; exact a4
  · rw [hT]; exact a5
  · rw [hT]
    intro a r b1 b2 hr
    rw [stay a r (by
      refine Or.inr fun e => ?_
      rcases hr with hr | hr
      · omega
      · rw [e, hn] at hr; cases hr)]
    exact a6 a r b1 b2 hr
  · rw [hT]
    intro j hj hj2
    rw [stay 5 (9 + j) (by omega)]
    exact a7 j hj hj2
  · obtain ⟨e1, e2, e3, e4, e5⟩ := id hd
    have hww : wd (96 + w) = 24 ∧ isS (96 + w) = false := by rcases hw with rfl | rfl <;> exact ⟨rfl, rfl⟩
    have hone : oneR k μr1 (setA μr1 (96 + w) (24 * k + q) (enc k pa)) := by
      have := oneR_a (μ := μr1) (t := k) (k := 96 + w) (i := q) (v := enc k pa) hk hww.2 (by rw [hww.1]; omega) (by rw [hww.1]; omega) (by omega)
      rw [hww.1] at this; exact this
    have hV : rV (setA μr1 (96 + w) (24 * k + q) (enc k pa)) k = pA (rV μr1 k) (96 + w) q (enc k pa) := by
      have := rV_a (μ := μr1) (t := k) (k := 96 + w) (i := q) (v := enc k pa) hww.2 (by rw [hww.1]; omega)
      rw [hww.1] at this; exact this
    refine ⟨e1.one a1 hk oo hone ⟨fun hkt => ?_, ?_⟩ (fun a r b1 b2 b3 b4 => stay a r (by omega)), ?_, fun j hj hj2 => ?_, e4.tr hone, fun a ha => ?_⟩
    · rw [hV]; exact RT_set hw hp33 ((e1.2.1 k hk).1 hkt)
    · rw [hV]
      have := RT_set (q := q) hw hp33 (e1.2.1 k hk).2.1
      exact this
    · rw [a_o (by omega)]; exact e2
    · rw [hT, stay 5 (9 + j) (by omega), a_o (by omega)]; exact e3 j hj hj2
    · rw [a_o (by omega)]; exact e5 a ha
theorem copy2 {c t k : Nat} {F : Int64} {μ0 : Mu} (ht : t < 4) (hk : k < 4) (hal : (cT μ0 k).1 0 7 = 1 ∨ (cT μ0 k).1 0 7 = 2) (hI0 : IT (cG μ0 3).toNatClampNeg (cT μ0 t)) (h8 : (cG μ0 3).toNatClampNeg ≤ 8) (hF0 : ∀ x, tb F x = true → tb (cT μ0 t).2.2 x = true)
    (hcl0 : ∀ x y, tb F x = true → ((cT μ0 t).2.1 3 x = nI y ∨ (cT μ0 t).2.1 4 x = nI y) → 9 ≤ y → y < 33 → tb F y = true) :
    ∀ (m i : Nat) (μ1 : Mu), i + m = 24 → C1 c t k F μ0 24 μ1 → ∃ μ2, C1 c t k F μ0 24 μ2 ∧ (∀ (w4 : Int32) (K : Int32 → Mu → Prop) (Q : Int32 → Mu → Prop), K (nI 33) μ2 → wp_Heap_copyFrom_48 k t F w4 K Q (m + 1) (nI (9 + i)) μ1) ∧
      ∀ (fl : Nat → Int32), (∀ v, v < 104 → (¬ fl v = 0 ↔ ∃ c, c < 24 ∧ v = 24 * t + c ∧ tb F (9 + c) = true)) → ∀ μr0 μr1, D1 t k F fl μr0 24 μ1 μr1 → ∃ μr2, D1 t k F fl μr0 24 μ2 μr2 ∧ ∀ (w1 : Int32) (K : Int32 → Mu → Prop) (Q : Int32 → Mu → Prop) (n : Nat), wp_Mod_copy_42 w1 K Q n (nI (24 * t + 24)) μr2 → wp_Mod_copy_42 w1 K Q (n + m) (nI (24 * t + i)) μr1 := by
  intro m
  induction m with
  | zero =>
    intro i μ1 hi h
    obtain rfl : i = 24 := by omega
    exact ⟨μ1, h, fun w4 K Q hq => ⟨fun _ => hq, fun h => absurd (by decide) h⟩, fun fl hfl μr0 μr1 hd => ⟨μr1, hd, fun w1 K Q n hq => hq⟩⟩
  | succ m ih =>
    intro i μ1 hi h
    have hng : ¬ (33 : Int32) ≤ nI (9 + i) := nI_ge (b := 33) (by omega) (by omega)
    have hng2 : ¬ (96 : Int32) ≤ nI (24 * t + i) := nI_ge (b := 96) (by omega) (by omega)
    have hin : vp_in (nI (9 + i)) 33 := vp_in_nI (by omega) (by decide)
    have hin2 : vp_in (nI (24 * t + i)) 104 := vp_in_nI (by omega) (by decide)
    have hcl : (nI (9 + i)).toNatClampNeg = 9 + i := nI_clamp (by omega)
    have hcl2 : (nI (24 * t + i)).toNatClampNeg = 24 * t + i := nI_clamp (by omega)
    cases hb : tb F (9 + i) with
    | false =>
      obtain ⟨μ2, b1, b2, b3⟩ := ih (i + 1) μ1 (by omega) h
      refine ⟨μ2, b1, fun w4 K Q hq => ⟨fun q => absurd q hng, fun _ => isin_no (by omega) hb ⟨fun _ => ?_, fun q => absurd rfl q⟩⟩, fun fl hfl μr0 μr1 hd => ?_⟩
      · rw [nI_1]; exact b2 w4 K Q hq
      · have hz : fl (24 * t + i) = 0 := Classical.byContradiction fun q => by
          obtain ⟨c', -, e, hb'⟩ := (hfl _ (by omega)).mp q
          rw [show c' = i by omega, hb] at hb'; cases hb'
        obtain ⟨μr2, c1, c2⟩ := b3 fl hfl μr0 μr1 hd
        refine ⟨μr2, c1, fun w1 K Q n hq => ⟨fun q => absurd q hng2, fun _ => ⟨hin2, fun _ => ?_, fun q => ?_⟩⟩⟩
        · rw [nI_1]; exact c2 w1 K Q n hq
        · rw [hcl2, hd.2.1] at q; exact absurd hz q
    | true =>
      obtain ⟨q, hq24, eq5, qm, qn⟩ := h.2.2.2.2.2.2 i (by omega) hb
      have m0 := hF0 _ hb
      obtain ⟨-, -, ⟨a, ha, ea⟩, b, hbb, eb⟩ := hI0.2.2.2.2.2.2.2.1 _ m0
      have a33 := okR_lt h8 ha
      have b33 := okR_lt h8 hbb
      obtain ⟨pa, pa5, paok, pa33, pacp⟩ := cp_ok ht hk h ha (fun h9 => hcl0 _ a hb (Or.inl ea) h9 a33)
      obtain ⟨hC16, hT16, hD16⟩ := setrow (w := 3) hk (Or.inl rfl) hal h hq24 qn paok pa33
      obtain ⟨pb, pb5, pbok, pb33, pbcp⟩ := cp_ok ht hk hC16 hbb (fun h9 => hcl0 _ b hb (Or.inr eb) h9 b33)
      obtain ⟨hC21, hT21, hD21⟩ := setrow (w := 4) hk (Or.inr rfl) hal hC16 hq24 qn pbok pb33
      obtain ⟨μ2, b1, b2, b3⟩ := ih (i + 1) _ (by omega) hC21
      have l3 : μ1.2.1 (26 + 17 * t) (9 + i) = nI a := by
        rw [show μ1.2.1 (26 + 17 * t) (9 + i) = (cT μ1 t).2.1 3 (9 + i) from cTA (by omega) (by omega), (snd1 ht hF0 h hb).2 3 (by omega) (by omega)]; exact ea
      have l4 : (setA μ1 (23 + 3 + 17 * k) (9 + q) (nI pa)).2.1 (27 + 17 * t) (9 + i) = nI b := by
        rw [show (setA μ1 (23 + 3 + 17 * k) (9 + q) (nI pa)).2.1 (27 + 17 * t) (9 + i) = (cT (setA μ1 (23 + 3 + 17 * k) (9 + q) (nI pa)) t).2.1 4 (9 + i) from cTA (by omega) (by omega), (snd1 ht hF0 hC16 hb).2 4 (by omega) (by omega)]; exact eb
      have r5 : ∀ x, μ1.2.1 (28 + 17 * k) x = (cT μ1 k).2.1 5 x := fun x => cTA (by omega) (by omega)
      have r5' : ∀ x, (setA μ1 (23 + 3 + 17 * k) (9 + q) (nI pa)).2.1 (28 + 17 * k) x = (cT (setA μ1 (23 + 3 + 17 * k) (9 + q) (nI pa)) k).2.1 5 x := fun x => cTA (by omega) (by omega)
      have eq5' : (cT (setA μ1 (23 + 3 + 17 * k) (9 + q) (nI pa)) k).2.1 5 (9 + i) = nI (9 + q) := by rw [hT16]; exact eq5
      refine ⟨μ2, b1, fun w4 K Q hq => ⟨fun z => absurd z hng, fun _ => isin_yes (by omega) hb ⟨fun z => absurd z z1, fun _ => ?_⟩⟩, fun fl hfl μr0 μr1 hd => ?_⟩
      · rw [hcl, l3, r5 (9 + i), eq5, nI_clamp (n := a) (by omega), r5 a, pa5, nI_clamp (n := 9 + q) (by omega)]
        refine ⟨hin, hin, vp_in_nI a33 (by decide), vp_in_nI (by omega) (by decide), fun μ16 e16 => ?_⟩
        rw [show 26 + 17 * k = 23 + 3 + 17 * k by omega] at e16
        subst e16
        rw [l4, r5' (9 + i), eq5', nI_clamp (n := b) (by omega), r5' b, pb5, nI_clamp (n := 9 + q) (by omega)]
        refine ⟨hin, hin, vp_in_nI b33 (by decide), vp_in_nI (by omega) (by decide), fun μ21 e21 => ?_⟩
        rw [show 27 + 17 * k = 23 + 4 + 17 * k by omega] at e21
        subst e21
        rw [nI_1]
        exact b2 w4 K Q hq
      · obtain ⟨e1, e2, e3, e4, e5⟩ := id hd
        obtain ⟨f1, f2, f3, f4, f5⟩ := hD16 fl μr0 μr1 hd
        obtain ⟨μr2, c1, c2⟩ := b3 fl hfl μr0 _ (hD21 fl μr0 _ (hD16 fl μr0 μr1 hd))
        have hfz : ¬ fl (24 * t + i) = 0 := (hfl _ (by omega)).mpr ⟨i, by omega, rfl, hb⟩
        have x103 : μr1.2.1 103 (24 * t + i) = nI (24 * k + q) := by rw [e3 i (by omega) hb, eq5, nI_clamp (by omega), enc_N (by omega), encN_own]
        have ok9 : ∀ {μ' : Mu}, C1 c t k F μ0 24 μ' → okR (cG μ' 3).toNatClampNeg (cT μ' t).2.2 (9 + i) := fun hC' => Or.inr (Or.inr ⟨by omega, by omega, (snd1 ht hF0 hC' hb).1⟩)
        have v99 : μr1.2.1 99 (24 * t + i) = enc t a := by
          have := (cellB (B := bF (cT μ1 t) 0 9 ((rV μr1 t).1 108)) ht h.1.sc.1 (e1.2.1 t ht).2.1 (e1.2.1 t ht).2.2 (ok9 h) (by omega)).2.1
          rw [encN_own] at this
          rw [this]
          show enc t ((cT μ1 t).2.1 3 (9 + i)).toNatClampNeg = _
          rw [(snd1 ht hF0 h hb).2 3 (by omega) (by omega), ea, nI_clamp (by omega)]
        have v100 : (setA μr1 (96 + 3) (24 * k + q) (enc k pa)).2.1 100 (24 * t + i) = enc t b := by
          have := (cellB (B := bF (cT (setA μ1 (23 + 3 + 17 * k) (9 + q) (nI pa)) t) 0 9 ((rV (setA μr1 (96 + 3) (24 * k + q) (enc k pa)) t).1 108)) ht hC16.1.sc.1 (f1.2.1 t ht).2.1 (f1.2.1 t ht).2.2 (ok9 hC16) (by omega)).2.2
          rw [encN_own] at this
          rw [this]
          show enc t ((cT (setA μ1 (23 + 3 + 17 * k) (9 + q) (nI pa)) t).2.1 4 (9 + i)).toNatClampNeg = _
          rw [(snd1 ht hF0 hC16 hb).2 4 (by omega) (by omega), eb, nI_clamp (by omega)]
        have x103' : (setA μr1 (96 + 3) (24 * k + q) (enc k pa)).2.1 103 (24 * t + i) = nI (24 * k + q) := by rw [a_o (by decide)]; exact x103
        refine ⟨μr2, c1, fun w1 K Q n hq => ⟨fun z => absurd z hng2, fun _ => ⟨hin2, fun z => ?_, fun _ => ⟨hin2, hin2, ?_⟩⟩⟩⟩
        · rw [hcl2, e2] at z; exact absurd z hfz
        · rw [hcl2, v99]
          refine pacp fl μr0 μr1 hd hfl _ ?_
          rw [x103, nI_clamp (by omega)]
          refine ⟨vp_in_nI (by omega) (by decide), fun μ15 e15 => ⟨hin2, hin2, ?_⟩⟩
          rw [show (99 : Nat) = 96 + 3 from rfl] at e15
          subst e15
          rw [v100, x103', nI_clamp (by omega)]
          refine pbcp fl μr0 _ ⟨f1, f2, f3, f4, f5⟩ hfl _ ⟨vp_in_nI (by omega) (by decide), fun μ21 e21 => ?_⟩
          rw [e21, nI_1]
          exact c2 w1 K Q n hq
