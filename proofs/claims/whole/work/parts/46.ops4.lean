-- OUT
theorem traf {t k : Nat} {a : Int32} {μr : Mu} {Q : Int32 → Mu → Prop} (hk : k = 19) (h : (vp_in (nI t) 4 ∧ (((¬ (μr.2.1 120 (Int32.toNatClampNeg (nI t))) = (16 : Int32)) → (vp_in (nI t) 4 ∧ wp_Mod_value (nI t) (0 : Int32) μr (fun x4 μ3 => (vp_in (((16 : Int32) * (nI t)) + (μr.2.1 120 (Int32.toNatClampNeg (nI t)))) 64 ∧ ∀ μ6 : Mu, μ6 = setA μ3 119 (Int32.toNatClampNeg (((16 : Int32) * (nI t)) + (μr.2.1 120 (Int32.toNatClampNeg (nI t))))) x4 → (vp_in (nI t) 4 ∧ (vp_in (nI t) 4 ∧ ∀ μ9 : Mu, μ9 = setA μ6 120 (Int32.toNatClampNeg (nI t)) ((μ6.2.1 120 (Int32.toNatClampNeg (nI t))) + (1 : Int32)) → (vp_in (nI t) 4 ∧ (vp_in (nI t) 4 ∧ ∀ μ12 : Mu, μ12 = setA μ9 112 (Int32.toNatClampNeg (nI t)) ((μ9.2.1 112 (Int32.toNatClampNeg (nI t))) - (1 : Int32)) → Q (0 : Int32) μ12)))))))) ∧ (((μr.2.1 120 (Int32.toNatClampNeg (nI t))) = (16 : Int32)) → Q (11 : Int32) μr)))) : wp_Mod_traffic (nI t) (nI k) a μr Q := by
  subst hk
  exact ⟨fun _ => ⟨fun _ => ⟨fun _ => ⟨fun _ => ⟨fun _ => h, fun hh => absurd hh (by decide)⟩, fun hh => absurd hh (by decide)⟩, fun hh => absurd hh (by decide)⟩, fun hh => absurd hh (by decide)⟩, fun hh => absurd hh (by decide)⟩
theorem op_19 {c t e : Nat} {a : Int32} {μ : Mu} (h : Ctx c t (e + 1) μ) (h1 : (cT μ t).2.1 8 e = 0) : OpOut c t (tys ((cT μ t).2.1 8) e) ((cT μ t).1 0 8) ((cT μ t).1 0 9) μ (wp_Host_putOut t) (wp_Mod_traffic (nI t) (nI 19) a) := by
  obtain ⟨hi, ht, hs1, hd, h6⟩ := id h
  have hI := hi.it ht
  have hdc : μ.1 (29 + 17 * t) 2 = nI (e + 1) := by rw [dep_c]; exact hd
  have o1 := popM_one (μ := μ) (d := e) ht
  obtain ⟨cn, hcn, ecn⟩ := hI.1.2.2.2
  have ecn2 : (popM μ t e).1 (37 + 17 * t) 1 = nI cn := (if_neg (fun q => by omega)).trans ((cTF (by omega) (by omega)).trans ecn)
  have r120 : ∀ μr, R2X t μ μr → μr.2.1 120 t = nI cn := fun μr hr => by
    rw [rVs (k := 120) rfl, ← (hr.2.1 t ht).2.1.2.1.2.2.2.2.2]; exact ecn
  by_cases hf : cn = 16
  · subst hf
    refine OpOut.fail (e := 11) h (by decide) (by decide) (by decide) ⟨popM μ t e, nI e, o1, fun Q hq => take_ok hdc (by omega) (line_full ecn2 (by decide) ⟨fun hh => absurd rfl hh, fun _ => end_cls hq⟩)⟩ (fun μr hr2 Q hq => traf rfl ⟨in4 ht, fun hh => ?_, fun _ => hq⟩)
    rw [cl4 ht, r120 μr hr2] at hh; exact absurd rfl hh
  have o2 := oneC_A (μ := popM μ t e) (k := 38) (j := cn) (v := (cT μ t).2.1 7 e) ht (by omega) (by omega)
  rw [o1.2.2.2.1] at o2
  have o3 := oneC_F (μ := setA (popM μ t e) (38 + 17 * t) cn ((cT μ t).2.1 7 e)) (k := 37) (j := 1) (v := nI (cn + 1)) ht (by omega) (by omega)
  rw [o2.2.2.2.1] at o3
  refine OpOut.one hi ht ⟨_, bF (bA (popB (cT μ t) e) 15 cn ((cT μ t).2.1 7 e)) 14 1 (nI (cn + 1)), fun Q hq => take_ok hdc (by omega) (line_add ecn2 (by omega) (by decide) ?_), (o1.tr o2).tr o3, ?_, rfl, fun x k b1 b2 b3 b4 => ?_, ⟨rfl, rfl, Or.inl ⟨hs1, ?_⟩⟩, fun μr hr2 _ => ?_⟩
  · refine ⟨fun _ => ?_, fun hh => absurd hh z1⟩
    rw [stk_c, show 37 + 17 * t + 1 = 38 + 17 * t by omega]; exact hq
  · obtain ⟨⟨a1, a2, a3, a4⟩, a5⟩ := IT_pop (e := e) hI hd h6 (by omega)
    exact ⟨⟨a1, a2, a3, ⟨cn + 1, by omega, rfl⟩⟩, a5⟩
  · show (if x = 15 ∧ k = cn then (cT μ t).2.1 7 e else (cT μ t).2.1 x k) = _
    rw [if_neg (by omega)]
  · show tys ((cT μ t).2.1 8) (nI e).toNatClampNeg = _
    rw [nI_clamp (by omega)]
  · have ev := stk_r h hr2 (show e < e + 1 by omega)
    rw [if_pos h1] at ev
    have hV : rV (setA μr 119 (16 * t + cn) ((cT μ t).2.1 7 e)) t = pA (rV μr t) 119 cn ((cT μ t).2.1 7 e) := rV_a (k := 119) rfl (show cn < 16 by omega)
    refine ⟨decM (setA (setA μr 119 (16 * t + cn) ((cT μ t).2.1 7 e)) 120 t (nI (cn + 1))) t e, endR_0 fun Q hq => traf rfl ⟨in4 ht, fun _ => ⟨in4 ht, value_ok (i := 0) ht (dep_r h hr2) (by omega) h6 ?_⟩, fun hh => ?_⟩, ((oneR_a (k := 119) (i := cn) ht rfl (show cn < 16 by omega) (by decide) (by omega)).tr (oneR_s (k := 120) rfl rfl (by omega))).tr decM_one, ?_, by rw [decM_o (by decide), a_o (by decide), a_o (by decide)]⟩
    · rw [show e + 1 - 1 - 0 = e by omega, ev, cl4 ht, r120 μr hr2, show ((16 : Int32) * nI t + nI cn).toNatClampNeg = 16 * t + cn from ix_cl (w := 16) ht (by omega) (by omega)]
      refine ⟨ix_le (w := 16) ht (by omega) rfl (by omega), fun μ6 e6 => ⟨in4 ht, in4 ht, fun μ9 e9 => ⟨in4 ht, in4 ht, fun μ12 e12 => ?_⟩⟩⟩
      have f1 : μ6.2.1 120 t = nI cn := by rw [e6, a_n (Or.inl (by decide))]; exact r120 μr hr2
      rw [f1, nI_1] at e9
      have f2 : μ9.2.1 112 t = nI (e + 1) := by rw [e9, a_n (Or.inl (by decide)), e6, a_n (Or.inl (by decide))]; exact dep_r h hr2
      rw [f2, nI_pred] at e12
      rw [e12, e9, e6]; exact hq
    · rw [cl4 ht, r120 μr hr2] at hh; exact absurd hh (nek (j := 16) hf (by omega) (by omega))
    · rw [decM_V, rV_s (k := 120) rfl rfl, hV]
      obtain ⟨x1, ⟨y1, y2, y3, y4, y5, y6⟩, x3, x4, x5, x6, x7, x8, x9⟩ := RTg_pop (e := e) (hr2.2.1 t ht).2.1 hd h6 (by omega)
      refine ⟨x1, ⟨y1, y2, y3, y4, y5, rfl⟩, x3, x4, x5, x6, x7, fun i hi => ?_, x9⟩
      have hi : i < (nI (cn + 1)).toNatClampNeg := hi
      rw [nI_clamp (by omega)] at hi
      show (if 119 = 119 ∧ i = cn then (cT μ t).2.1 7 e else (rV μr t).2 119 i) = if 15 = 15 ∧ i = cn then (cT μ t).2.1 7 e else (cT μ t).2.1 15 i
      by_cases hh : i = cn
      · rw [if_pos ⟨rfl, hh⟩, if_pos ⟨rfl, hh⟩]
      · rw [if_neg (fun q => hh q.2), if_neg (fun q => hh q.2)]
        exact x8 i (by show i < ((cT μ t).1 14 1).toNatClampNeg; rw [ecn, nI_clamp (by omega)]; omega)
/-- the first of a line is taken -/
theorem line_first {k n cn : Nat} {μ : Mu} {Q : Int32 → Mu → Prop} (hc : μ.1 k 1 = nI (cn + 1)) (hn : cn + 1 ≤ n) (hn2 : n < 2 ^ 31) (hq : Q (μ.2.1 (k + 1) 0) (setG (setF μ k 1 (nI cn)) (k + 1) (va_cpy (μ.2.1 (k + 1)) (μ.2.1 (k + 1)) 1 0 cn))) : wp_Line_takeFirst k n μ Q := by
  refine line_item (i := 0) hc hn hn2 (by omega) ⟨fun h => ?_, fun _ μ3 e3 => ?_⟩
  · rw [hc] at h; exact absurd h (nI_nle (by omega) (by omega))
  · rw [hc, nI_pred] at e3
    have f1 : μ3.1 k 1 = nI cn := by rw [e3]; exact if_pos ⟨rfl, rfl⟩
    have f2 : μ3.2.1 = μ.2.1 := by rw [e3]; rfl
    rw [f1, nI_clamp (by omega)]
    refine ⟨⟨by decide, by decide, nI_pos (by omega), ?_, ?_⟩, fun μ4 e4 => ?_⟩
    · show 1 + cn ≤ n
      omega
    · show 0 + cn ≤ n
      omega
    · rw [f2, e3] at e4
      rw [e4]; exact hq
theorem line_first0 {k n : Nat} {μ : Mu} {Q : Int32 → Mu → Prop} (hc : μ.1 k 1 = 0) (hq : Q 0 μ) : wp_Line_takeFirst k n μ Q := by
  refine line_none (Or.inr (by rw [hc]; decide)) ⟨fun _ => hq, fun h => absurd ?_ h⟩
  rw [hc]; decide
theorem oneR_G {μ : Mu} {t k : Nat} {f : Nat → Int32} (hk : isS k = false) (h : 101 ≤ k) (h1 : ∀ y, y < wd k * t → f y = μ.2.1 k y) (h2 : ∀ y, wd k * t + wd k ≤ y → f y = μ.2.1 k y) : oneR t μ (setG μ k f) := by
  refine ⟨rfl, fun a b1 b2 => funext fun x => ?_, fun u hu hne => rV_ext (fun a hs => ?_) (fun a i hs => ?_), fun a ha => g_o (by omega), clsEq.rf.G (by omega)⟩
  · show (if x < 8 then (setG μ k f).2.1 a (96 + x) else 0) = if x < 8 then μ.2.1 a (96 + x) else 0
    rw [g_o (by omega)]
  · rw [g_o (fun e => by rw [e, hk] at hs; cases hs)]
  · by_cases hak : a = k
    · subst hak
      rw [g_at]
      rcases Nat.lt_or_gt_of_ne hne with h3 | h3
      · have : wd a * (u + 1) ≤ wd a * t := Nat.mul_le_mul_left _ h3
        rw [Nat.mul_add] at this
        exact h1 _ (by omega)
      · have : wd a * (t + 1) ≤ wd a * u := Nat.mul_le_mul_left _ h3
        rw [Nat.mul_add] at this
        exact h2 _ (by omega)
    · rw [g_o hak]
theorem shiftI {t : Nat} {ν : Mu} (ht : t < 4) : ∀ (m i : Nat) (f : Nat → Int32), i + m = 7 → (∀ j, j < i → f (8 * t + j) = ν.2.1 117 (8 * t + j + 1)) → (∀ y, 8 * t + i ≤ y → f y = ν.2.1 117 y) → (∀ y, y < 8 * t → f y = ν.2.1 117 y) →
    ∃ f', ((∀ j, j < 7 → f' (8 * t + j) = ν.2.1 117 (8 * t + j + 1)) ∧ (∀ y, 8 * t + 7 ≤ y → f' y = ν.2.1 117 y) ∧ (∀ y, y < 8 * t → f' y = ν.2.1 117 y)) ∧
      ∀ (K : Int32 → Mu → Prop) (Q : Mu → Prop), K (nI (8 * t + 7)) (setG ν 117 f') → wp_Mod_shiftInput_5 (nI t) K Q (m + 1) (nI (8 * t + i)) (setG ν 117 f) := by
  have hlim : (8 : Int32) * nI t + (7 : Int32) = nI (8 * t + 7) := by rw [show (8 : Int32) = nI 8 from rfl, show (7 : Int32) = nI 7 from rfl, pk_mul, nI_add]
  intro m
  induction m with
  | zero =>
    intro i f hi h1 h2 h3
    obtain rfl : i = 7 := by omega
    refine ⟨f, ⟨h1, h2, h3⟩, fun K Q hq => ⟨fun _ => hq, fun h => absurd ?_ h⟩⟩
    rw [hlim]; exact nI_le (Nat.le_refl _) (by omega)
  | succ m ih =>
    intro i f hi h1 h2 h3
    have hcl : (nI (8 * t + i)).toNatClampNeg = 8 * t + i := nI_clamp (by omega)
    have hcl2 : (nI (8 * t + i) + (1 : Int32)).toNatClampNeg = 8 * t + i + 1 := by rw [nI_1, nI_clamp (by omega)]
    have hv : f (8 * t + i + 1) = ν.2.1 117 (8 * t + i + 1) := h2 _ (by omega)
    obtain ⟨f', hp, hgo⟩ := ih (i + 1) (upd f (8 * t + i) (ν.2.1 117 (8 * t + i + 1))) (by omega) (fun j hj => by
        by_cases h : j = i
        · subst h; rw [pk_us]
        · rw [pk_un (by omega)]; exact h1 j (by omega)) (fun y hy => by rw [pk_un (by omega)]; exact h2 y (by omega)) (fun y hy => by rw [pk_un (by omega)]; exact h3 y hy)
    refine ⟨f', hp, fun K Q hq => ⟨fun h => ?_, fun _ => ⟨?_, vp_in_nI (by omega) (by decide), fun μ3 e3 => ?_⟩⟩⟩
    · rw [hlim] at h; exact absurd h (nI_ge (by omega) (by omega))
    · rw [nI_1]; exact vp_in_nI (by omega) (by decide)
    · rw [hcl, hcl2, g_at, hv, gA] at e3
      rw [e3, nI_1]; exact hgo K Q hq
theorem shiftM {t : Nat} {ν : Mu} (ht : t < 4) : ∀ (m i : Nat) (f : Nat → Int32), i + m = 3 → (∀ j, j < i → f (4 * t + j) = ν.2.1 115 (4 * t + j + 1)) → (∀ y, 4 * t + i ≤ y → f y = ν.2.1 115 y) → (∀ y, y < 4 * t → f y = ν.2.1 115 y) →
    ∃ f', ((∀ j, j < 3 → f' (4 * t + j) = ν.2.1 115 (4 * t + j + 1)) ∧ (∀ y, 4 * t + 3 ≤ y → f' y = ν.2.1 115 y) ∧ (∀ y, y < 4 * t → f' y = ν.2.1 115 y)) ∧
      ∀ (K : Int32 → Mu → Prop) (Q : Mu → Prop), K (nI (4 * t + 3)) (setG ν 115 f') → wp_Mod_shiftMail_4 (nI t) K Q (m + 1) (nI (4 * t + i)) (setG ν 115 f) := by
  have hlim : (4 : Int32) * nI t + (3 : Int32) = nI (4 * t + 3) := by rw [show (4 : Int32) = nI 4 from rfl, show (3 : Int32) = nI 3 from rfl, pk_mul, nI_add]
  intro m
  induction m with
  | zero =>
    intro i f hi h1 h2 h3
    obtain rfl : i = 3 := by omega
    refine ⟨f, ⟨h1, h2, h3⟩, fun K Q hq => ⟨fun _ => hq, fun h => absurd ?_ h⟩⟩
    rw [hlim]; exact nI_le (Nat.le_refl _) (by omega)
  | succ m ih =>
    intro i f hi h1 h2 h3
    have hcl : (nI (4 * t + i)).toNatClampNeg = 4 * t + i := nI_clamp (by omega)
    have hcl2 : (nI (4 * t + i) + (1 : Int32)).toNatClampNeg = 4 * t + i + 1 := by rw [nI_1, nI_clamp (by omega)]
    have hv : f (4 * t + i + 1) = ν.2.1 115 (4 * t + i + 1) := h2 _ (by omega)
    obtain ⟨f', hp, hgo⟩ := ih (i + 1) (upd f (4 * t + i) (ν.2.1 115 (4 * t + i + 1))) (by omega) (fun j hj => by
        by_cases h : j = i
        · subst h; rw [pk_us]
        · rw [pk_un (by omega)]; exact h1 j (by omega)) (fun y hy => by rw [pk_un (by omega)]; exact h2 y (by omega)) (fun y hy => by rw [pk_un (by omega)]; exact h3 y hy)
    refine ⟨f', hp, fun K Q hq => ⟨fun h => ?_, fun _ => ⟨?_, vp_in_nI (by omega) (by decide), fun μ3 e3 => ?_⟩⟩⟩
    · rw [hlim] at h; exact absurd h (nI_ge (by omega) (by omega))
    · rw [nI_1]; exact vp_in_nI (by omega) (by decide)
    · rw [hcl, hcl2, g_at, hv, gA] at e3
      rw [e3, nI_1]; exact hgo K Q hq
theorem shiftIn_ok {t cn : Nat} {ν : Mu} (ht : t < 4) (hc : ν.2.1 118 t = nI (cn + 1)) : ∃ f', (∀ j, j < 7 → f' (8 * t + j) = ν.2.1 117 (8 * t + j + 1)) ∧ oneR t ν (setA (setG ν 117 f') 118 t (nI cn)) ∧ ∀ Q : Mu → Prop, Q (setA (setG ν 117 f') 118 t (nI cn)) → wp_Mod_shiftInput (nI t) ν Q := by
  obtain ⟨f', ⟨p1, p2, p3⟩, hgo⟩ := shiftI (ν := ν) ht 7 0 (ν.2.1 117) (by omega) (fun j hj => absurd hj (by omega)) (fun _ _ => rfl) (fun _ _ => rfl)
  refine ⟨f', p1, (oneR_G (k := 117) rfl (by omega) p3 (fun y hy => p2 y (by have : 8 * t + 8 ≤ y := hy; omega))).tr (oneR_s (k := 118) rfl rfl (by omega)), fun Q hq => ⟨8, ?_⟩⟩
  have h8 : (8 : Int32) * nI t = nI (8 * t + 0) := by rw [show (8 : Int32) = nI 8 from rfl, pk_mul, Nat.add_zero]
  rw [h8]
  have := hgo (fun v4 μ5 => (vp_in (nI t) 4 ∧ (vp_in (nI t) 4 ∧ ∀ μ8 : Mu, μ8 = setA μ5 118 (Int32.toNatClampNeg (nI t)) ((μ5.2.1 118 (Int32.toNatClampNeg (nI t))) - (1 : Int32)) → Q μ8))) Q ⟨in4 ht, in4 ht, fun μ8 e8 => ?_⟩
  · rw [g_self] at this; exact this
  · rw [cl4 ht, g_o (by decide), hc, nI_pred] at e8
    rw [e8]; exact hq
theorem shiftMa_ok {t cn : Nat} {ν : Mu} (ht : t < 4) (hc : ν.2.1 116 t = nI (cn + 1)) : ∃ f', (∀ j, j < 3 → f' (4 * t + j) = ν.2.1 115 (4 * t + j + 1)) ∧ oneR t ν (setA (setG ν 115 f') 116 t (nI cn)) ∧ ∀ Q : Mu → Prop, Q (setA (setG ν 115 f') 116 t (nI cn)) → wp_Mod_shiftMail (nI t) ν Q := by
  obtain ⟨f', ⟨p1, p2, p3⟩, hgo⟩ := shiftM (ν := ν) ht 3 0 (ν.2.1 115) (by omega) (fun j hj => absurd hj (by omega)) (fun _ _ => rfl) (fun _ _ => rfl)
  refine ⟨f', p1, (oneR_G (k := 115) rfl (by omega) p3 (fun y hy => p2 y (by have : 4 * t + 4 ≤ y := hy; omega))).tr (oneR_s (k := 116) rfl rfl (by omega)), fun Q hq => ⟨4, ?_⟩⟩
  have h8 : (4 : Int32) * nI t = nI (4 * t + 0) := by rw [show (4 : Int32) = nI 4 from rfl, pk_mul, Nat.add_zero]
  rw [h8]
  have := hgo (fun v4 μ5 => (vp_in (nI t) 4 ∧ (vp_in (nI t) 4 ∧ ∀ μ8 : Mu, μ8 = setA μ5 116 (Int32.toNatClampNeg (nI t)) ((μ5.2.1 116 (Int32.toNatClampNeg (nI t))) - (1 : Int32)) → Q μ8))) Q ⟨in4 ht, in4 ht, fun μ8 e8 => ?_⟩
  · rw [g_self] at this; exact this
  · rw [cl4 ht, g_o (by decide), hc, nI_pred] at e8
    rw [e8]; exact hq
