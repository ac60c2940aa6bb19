-- IN, RECEIVE
def pG (S : PB) (k : Nat) (g : Nat → Int32) : PB := (S.1, fun a => if a = k then g else S.2 a)
theorem rV_G {ν : Mu} {t k : Nat} {f : Nat → Int32} (hk : isS k = false) : rV (setG ν k f) t = pG (rV ν t) k (fun i => if i < wd k then f (wd k * t + i) else 0) := by
  unfold rV pG
  refine Prod.ext (funext fun a => ?_) (funext fun a => ?_)
  · show (if isS a = true then (setG ν k f).2.1 a t else 0) = if isS a = true then ν.2.1 a t else 0
    by_cases ha : isS a = true
    · rw [if_pos ha, if_pos ha, g_o (fun e => by rw [e, hk] at ha; cases ha)]
    · rw [if_neg ha, if_neg ha]
  · show (fun i => if i < wd a then (setG ν k f).2.1 a (wd a * t + i) else 0) = if a = k then (fun i => if i < wd k then f (wd k * t + i) else 0) else (fun i => if i < wd a then ν.2.1 a (wd a * t + i) else 0)
    by_cases ha : a = k
    · subst ha; rw [if_pos rfl, g_at]
    · rw [if_neg ha, g_o ha]
theorem op_20 {c t d : Nat} {a : Int32} {μ : Mu} (h : Ctx c t d μ) (h6 : d < 6) : OpOut c t (false :: tys ((cT μ t).2.1 8) d) ((cT μ t).1 0 8) ((cT μ t).1 0 9) μ (fun μ11 Q => wp_Line_takeFirst (35 + 17 * t) 8 μ11 (fun x42 μ41 => wp_Stk_putNumber t x42 μ41 (fun μ43 => Q μ43))) (wp_Mod_traffic (nI t) (nI 20) a) := by
  obtain ⟨hi, ht, hs1, hd, -⟩ := id h
  have hI := hi.it ht
  have hdc : μ.1 (29 + 17 * t) 2 = nI d := by rw [dep_c]; exact hd
  obtain ⟨n, hn, en⟩ := hI.1.2.2.1
  have ec : μ.1 (35 + 17 * t) 1 = nI n := (cTF (by omega) (by omega)).trans en
  have r118 : ∀ μr, R2X t μ μr → μr.2.1 118 t = nI n := fun μr hr => by
    rw [rVs (k := 118) rfl, ← (hr.2.1 t ht).2.1.2.1.2.2.2.2.1]; exact en
  have b118 : ∀ μr v, R2X t μ μr → (becM μr t d v).2.1 118 t = nI n := fun μr v hr => by
    rw [show (becM μr t d v).2.1 118 = μr.2.1 118 from (a_o (by decide)).trans ((a_o (by decide)).trans (a_o (by decide)))]; exact r118 μr hr
  have way : ∀ {μr : Mu} {Q : Int32 → Mu → Prop}, (vp_in (nI t) 4 ∧ ((((μr.2.1 118 (Int32.toNatClampNeg (nI t))) ≤ 0) → wp_Mod_traffic_j98 (nI t) (0 : Int32) (0 : Int32) (nI t) μr  Q) ∧ ((¬ (μr.2.1 118 (Int32.toNatClampNeg (nI t))) ≤ 0) → (vp_in ((8 : Int32) * (nI t)) 32 ∧ wp_Mod_traffic_j98 (nI t) (μr.2.1 117 (Int32.toNatClampNeg ((8 : Int32) * (nI t)))) (0 : Int32) (nI t) μr  Q)))) → wp_Mod_traffic (nI t) (nI 20) a μr Q := fun hq => ⟨fun _ => ⟨fun _ => ⟨fun _ => ⟨fun _ => ⟨fun hh => absurd rfl hh, fun _ => hq⟩, fun hh => absurd hh (by decide)⟩, fun hh => absurd hh (by decide)⟩, fun hh => absurd hh (by decide)⟩, fun hh => absurd hh (by decide)⟩
  have bec : ∀ {μr : Mu} {w : Int32} {Q : Mu → Prop}, R2X t μ μr → Q (becM μr t d w) → wp_Mod_become (nI t) (0 : Int32) w μr Q := fun {μr w Q} hr2 hq => become_ok (n := 0) ht (dep_r h hr2) (by omega) (by omega) (by rw [Nat.sub_zero]; exact hq)
  match n, hn, en, ec, r118, b118 with
  | 0, hn, en, ec, r118, b118 =>
    refine OpOut.push (e := d) (v := 0) (b := 0) h (Nat.le_refl _) h6 (Or.inl rfl) ⟨pushM μ t d 0 0, by rw [popB_self hd]; exact pushM_one ht, fun Q hq => line_first0 ec (put_ok hdc h6 (Or.inl rfl) hq)⟩ rfl (fun μr hr => ⟨0, rfl, fun Q hq => way ⟨in4 ht, fun _ => bec hr ⟨in4 ht, fun _ => hq, fun hh => ?_⟩, fun hh => ?_⟩⟩)
    · rw [cl4 ht, b118 μr _ hr] at hh; exact absurd (by decide) hh
    · rw [cl4 ht, r118 μr hr] at hh; exact absurd (by decide) hh
  | cn + 1, hn, en, ec, r118, b118 =>
    have e13 : μ.2.1 (35 + 17 * t + 1) = (cT μ t).2.1 13 := by
      funext i
      rw [show 35 + 17 * t + 1 = 36 + 17 * t by omega]
      exact cTA (by omega) (by omega)
    have o1 := oneC_F (μ := μ) (k := 35) (j := 1) (v := nI cn) ht (by omega) (by omega)
    have o2 := oneC_G (μ := setF μ (35 + 17 * t) 1 (nI cn)) (k := 36) (f := va_cpy ((cT μ t).2.1 13) ((cT μ t).2.1 13) 1 0 cn) ht (by omega) (by omega)
    rw [o1.2.2.2.1] at o2
    have o3 := pushM_one (μ := setG (setF μ (35 + 17 * t) 1 (nI cn)) (36 + 17 * t) (va_cpy ((cT μ t).2.1 13) ((cT μ t).2.1 13) 1 0 cn)) (d := d) (v := (cT μ t).2.1 13 0) (b := 0) ht
    rw [o2.2.2.2.1] at o3
    have dd : (setG (setF μ (35 + 17 * t) 1 (nI cn)) (36 + 17 * t) (va_cpy ((cT μ t).2.1 13) ((cT μ t).2.1 13) 1 0 cn)).1 (29 + 17 * t) 2 = nI d := (if_neg (fun q => by omega)).trans hdc
    refine OpOut.one hi ht ⟨_, pushB (bG (bF (cT μ t) 12 1 (nI cn)) 13 (va_cpy ((cT μ t).2.1 13) ((cT μ t).2.1 13) 1 0 cn)) d ((cT μ t).2.1 13 0) 0, fun Q hq => line_first ec hn (by decide) ?_, (o1.tr o2).tr o3, IT_push ?_ hd h6 (Or.inl rfl), rfl, fun x k b1 b2 b3 b4 => ?_, ⟨rfl, rfl, Or.inl ⟨hs1, ?_⟩⟩, fun μr hr2 _ => ?_⟩
    · rw [e13, show 35 + 17 * t + 1 = 36 + 17 * t by omega]
      exact put_ok dd h6 (Or.inl rfl) hq
    · obtain ⟨⟨a1, a2, a3, a4⟩, a5⟩ := hI
      exact ⟨⟨a1, a2, ⟨cn, by omega, rfl⟩, a4⟩, a5⟩
    · show (if x = 8 ∧ k = d then 0 else if x = 7 ∧ k = d then (cT μ t).2.1 13 0 else (if x = 13 then (va_cpy ((cT μ t).2.1 13) ((cT μ t).2.1 13) 1 0 cn) else (cT μ t).2.1 x) k) = _
      rw [if_neg (by omega), if_neg (by omega), if_neg (by omega)]
    · show tys _ (nI (d + 1)).toNatClampNeg = _
      rw [nI_clamp (by omega), tys_push]; rfl
    · have i0 : (8 : Int32) * nI t = nI (8 * t) := by rw [show (8 : Int32) = nI 8 from rfl, pk_mul]
      have hin : ∀ i, i < cn + 1 → μr.2.1 117 (8 * t + i) = (cT μ t).2.1 13 i := fun i hi => by
        rw [show μr.2.1 117 (8 * t + i) = (rV μr t).2 117 i from rVa (k := 117) (show i < 8 by omega)]
        exact (hr2.2.1 t ht).2.1.2.2.2.2.2.2.1 i (by show i < ((cT μ t).1 12 1).toNatClampNeg; rw [en, nI_clamp (by omega)]; exact hi)
      obtain ⟨f', p1, p2, p3⟩ := shiftIn_ok (ν := becM μr t d ((cT μ t).2.1 13 0)) ht (b118 μr _ hr2)
      have b117 : (becM μr t d ((cT μ t).2.1 13 0)).2.1 117 = μr.2.1 117 := (a_o (by decide)).trans ((a_o (by decide)).trans (a_o (by decide)))
      refine ⟨_, endR_0 fun Q hq => way ⟨in4 ht, fun hh => ?_, fun _ => ⟨?_, ?_⟩⟩, (becM_one ht h6).tr p2, ?_, ?_⟩
      · rw [cl4 ht, r118 μr hr2] at hh; exact absurd hh (nI_nle (by omega) (by omega))
      · rw [i0]; exact vp_in_nI (by omega) (by decide)
      · rw [i0, nI_clamp (by omega), show μr.2.1 117 (8 * t) = (cT μ t).2.1 13 0 from hin 0 (by omega)]
        refine bec hr2 ⟨in4 ht, fun hh => ?_, fun _ => p3 _ hq⟩
        rw [cl4 ht, b118 μr _ hr2] at hh; exact absurd hh (nI_nle (by omega) (by omega))
      · rw [rV_s (k := 118) rfl rfl, rV_G (k := 117) rfl, becM_V h6]
        obtain ⟨x1, ⟨y1, y2, y3, y4, y5, y6⟩, x3, x4, x5, x6, x7, x8⟩ := RTg_push (v := (cT μ t).2.1 13 0) (b := 0) (w := (cT μ t).2.1 13 0) (hr2.2.1 t ht).2.1 hd (by omega) (Nat.le_refl _) h6 rfl
        refine ⟨x1, ⟨y1, y2, y3, y4, rfl, y6⟩, x3, x4, x5, x6, fun i hi => ?_, x8⟩
        have hi : i < (nI cn).toNatClampNeg := hi
        rw [nI_clamp (by omega)] at hi
        show (if i < 8 then f' (8 * t + i) else 0) = va_cpy ((cT μ t).2.1 13) ((cT μ t).2.1 13) 1 0 cn i
        rw [if_pos (by omega), p1 i (by omega), b117, pk_cpy_in (by omega) (by omega), show 8 * t + i + 1 = 8 * t + (i + 1) by omega, hin (i + 1) (by omega), show 1 + (i - 0) = i + 1 by omega]
      · rw [a_o (by decide), g_o (by decide), becM_108]
theorem op_22 {c t d : Nat} {a : Int32} {μ : Mu} (h : Ctx c t d μ) (h6 : d < 6) (hm : ¬ (cT μ t).1 10 1 = 0) : OpOut c t (true :: tys ((cT μ t).2.1 8) d) ((cT μ t).1 0 8) ((cT μ t).1 0 9) μ (fun μ11 Q => wp_Line_takeFirst (33 + 17 * t) 4 μ11 (fun x42 μ41 => wp_Stk_putReference t x42 μ41 (fun μ43 => Q μ43))) (wp_Mod_traffic (nI t) (nI 22) a) := by
  obtain ⟨hi, ht, hs1, hd, -⟩ := id h
  have hI := hi.it ht
  have hdc : μ.1 (29 + 17 * t) 2 = nI d := by rw [dep_c]; exact hd
  obtain ⟨n, hn, en⟩ := hI.1.2.1
  match n, hn, en with
  | 0, hn, en => exact absurd en hm
  | cn + 1, hn, en =>
    have ec : μ.1 (33 + 17 * t) 1 = nI (cn + 1) := (cTF (by omega) (by omega)).trans en
    have r116 : ∀ μr, R2X t μ μr → μr.2.1 116 t = nI (cn + 1) := fun μr hr => by
      rw [rVs (k := 116) rfl, ← (hr.2.1 t ht).2.1.2.1.2.2.2.1]; exact en
    have b116 : ∀ μr v, R2X t μ μr → (becM μr t d v).2.1 116 t = nI (cn + 1) := fun μr v hr => by
      rw [show (becM μr t d v).2.1 116 = μr.2.1 116 from (a_o (by decide)).trans ((a_o (by decide)).trans (a_o (by decide)))]; exact r116 μr hr
    have bec : ∀ {μr : Mu} {w : Int32} {Q : Mu → Prop}, R2X t μ μr → Q (becM μr t d w) → wp_Mod_become (nI t) (0 : Int32) w μr Q := fun {μr w Q} hr2 hq => become_ok (n := 0) ht (dep_r h hr2) (by omega) (by omega) (by rw [Nat.sub_zero]; exact hq)
    have e11 : μ.2.1 (33 + 17 * t + 1) = (cT μ t).2.1 11 := by
      funext i
      rw [show 33 + 17 * t + 1 = 34 + 17 * t by omega]
      exact cTA (by omega) (by omega)
    have hml : ∀ i, i < cn + 1 → isR (cG μ 3).toNatClampNeg (cT μ t).2.2 ((cT μ t).2.1 11 i) := fun i hi => hI.2.2.2.2.2.2.1 i (by rw [en, nI_clamp (by omega)]; exact hi)
    have o1 := oneC_F (μ := μ) (k := 33) (j := 1) (v := nI cn) ht (by omega) (by omega)
    have o2 := oneC_G (μ := setF μ (33 + 17 * t) 1 (nI cn)) (k := 34) (f := va_cpy ((cT μ t).2.1 11) ((cT μ t).2.1 11) 1 0 cn) ht (by omega) (by omega)
    rw [o1.2.2.2.1] at o2
    have o3 := pushM_one (μ := setG (setF μ (33 + 17 * t) 1 (nI cn)) (34 + 17 * t) (va_cpy ((cT μ t).2.1 11) ((cT μ t).2.1 11) 1 0 cn)) (d := d) (v := (cT μ t).2.1 11 0) (b := 1) ht
    rw [o2.2.2.2.1] at o3
    have dd : (setG (setF μ (33 + 17 * t) 1 (nI cn)) (34 + 17 * t) (va_cpy ((cT μ t).2.1 11) ((cT μ t).2.1 11) 1 0 cn)).1 (29 + 17 * t) 2 = nI d := (if_neg (fun q => by omega)).trans hdc
    refine OpOut.one hi ht ⟨_, pushB (bG (bF (cT μ t) 10 1 (nI cn)) 11 (va_cpy ((cT μ t).2.1 11) ((cT μ t).2.1 11) 1 0 cn)) d ((cT μ t).2.1 11 0) 1, fun Q hq => line_first ec hn (by decide) ?_, (o1.tr o2).tr o3, IT_push ?_ hd h6 (Or.inr ⟨rfl, hml 0 (by omega)⟩), rfl, fun x k b1 b2 b3 b4 => ?_, ⟨rfl, rfl, Or.inl ⟨hs1, ?_⟩⟩, fun μr hr2 _ => ?_⟩
    · rw [e11, show 33 + 17 * t + 1 = 34 + 17 * t by omega]
      exact put_ok dd h6 (Or.inr rfl) hq
    · obtain ⟨⟨a1, a2, a3⟩, b2, b3, b4, b5, b6, b7, b8⟩ := hI
      refine ⟨⟨a1, ⟨cn, by omega, rfl⟩, a3⟩, b2, b3, b4, b5, b6, fun i hi => ?_, b8⟩
      have hi : i < (nI cn).toNatClampNeg := hi
      rw [nI_clamp (by omega)] at hi
      show isR _ (cT μ t).2.2 (va_cpy ((cT μ t).2.1 11) ((cT μ t).2.1 11) 1 0 cn i)
      rw [pk_cpy_in (by omega) (by omega)]
      exact hml _ (by omega)
    · show (if x = 8 ∧ k = d then 1 else if x = 7 ∧ k = d then (cT μ t).2.1 11 0 else (if x = 11 then (va_cpy ((cT μ t).2.1 11) ((cT μ t).2.1 11) 1 0 cn) else (cT μ t).2.1 x) k) = _
      rw [if_neg (by omega), if_neg (by omega), if_neg (by omega)]
    · show tys _ (nI (d + 1)).toNatClampNeg = _
      rw [nI_clamp (by omega), tys_push]; rfl
    · have i0 : (4 : Int32) * nI t = nI (4 * t) := by rw [show (4 : Int32) = nI 4 from rfl, pk_mul]
      have hin : ∀ i, i < cn + 1 → μr.2.1 115 (4 * t + i) = enc t ((cT μ t).2.1 11 i).toNatClampNeg := fun i hi => by
        rw [show μr.2.1 115 (4 * t + i) = (rV μr t).2 115 i from rVa (k := 115) (show i < 4 by omega)]
        exact (hr2.2.1 t ht).2.1.2.2.2.2.2.1 i (by show i < ((cT μ t).1 10 1).toNatClampNeg; rw [en, nI_clamp (by omega)]; exact hi)
      obtain ⟨f', p1, p2, p3⟩ := shiftMa_ok (ν := becM μr t d (enc t ((cT μ t).2.1 11 0).toNatClampNeg)) ht (b116 μr _ hr2)
      have b115 : (becM μr t d (enc t ((cT μ t).2.1 11 0).toNatClampNeg)).2.1 115 = μr.2.1 115 := (a_o (by decide)).trans ((a_o (by decide)).trans (a_o (by decide)))
      refine ⟨_, endR_0 fun Q hq => ⟨fun _ => ⟨fun _ => ⟨fun _ => ⟨fun hh => absurd rfl hh, fun _ => ⟨?_, ?_⟩⟩, fun hh => absurd hh (by decide)⟩, fun hh => absurd hh (by decide)⟩, fun hh => absurd hh (by decide)⟩, (becM_one ht h6).tr p2, ?_, ?_⟩
      · rw [i0]; exact vp_in_nI (by omega) (by decide)
      · rw [i0, nI_clamp (by omega), show μr.2.1 115 (4 * t) = enc t ((cT μ t).2.1 11 0).toNatClampNeg from hin 0 (by omega)]
        exact bec hr2 (p3 _ hq)
      · rw [rV_s (k := 116) rfl rfl, rV_G (k := 115) rfl, becM_V h6]
        obtain ⟨x1, ⟨y1, y2, y3, y4, y5, y6⟩, x3, x4, x5, x6, x7, x8⟩ := RTg_push (v := (cT μ t).2.1 11 0) (b := 1) (w := enc t ((cT μ t).2.1 11 0).toNatClampNeg) (hr2.2.1 t ht).2.1 hd (by omega) (Nat.le_refl _) h6 rfl
        refine ⟨x1, ⟨y1, y2, y3, rfl, y5, y6⟩, x3, x4, x5, fun i hi => ?_, x7, x8⟩
        have hi : i < (nI cn).toNatClampNeg := hi
        rw [nI_clamp (by omega)] at hi
        show (if i < 4 then f' (4 * t + i) else 0) = enc t (va_cpy ((cT μ t).2.1 11) ((cT μ t).2.1 11) 1 0 cn i).toNatClampNeg
        rw [if_pos (by omega), p1 i (by omega), b115, pk_cpy_in (by omega) (by omega), show 4 * t + i + 1 = 4 * t + (i + 1) by omega, hin (i + 1) (by omega), show 1 + (i - 0) = i + 1 by omega]
      · rw [a_o (by decide), g_o (by decide), becM_108]
