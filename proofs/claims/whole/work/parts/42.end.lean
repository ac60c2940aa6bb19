/-! The end of a tenant, in both. -/
def endM (μ : Mu) (t : Nat) (e : Int32) : Mu := setA (setA (setA (setA (setF (setF (setJ (setF (setF μ (23 + 17 * t) 7 e) (23 + 17 * t) 12 (μ.1 0 4)) (24 + 17 * t) 0) (29 + 17 * t) 2 0) (33 + 17 * t) 1 0) (32 + 17 * t) 0 0) (32 + 17 * t) 1 0) (32 + 17 * t) 2 0) (32 + 17 * t) 3 0
def endB (B : TB) (e sl : Int32) : TB := bA (bA (bA (bA (bF (bF (bJ (bF (bF B 0 7 e) 0 12 sl) 0) 6 2 0) 10 1 0) 9 0 0) 9 1 0) 9 2 0) 9 3 0
theorem end_cls {t : Nat} {e : Int32} {μ : Mu} {Q : Mu → Prop} (hq : Q (endM μ t e)) : wp_Host_end t e μ Q := by
  intro μ1 e1 μ2 e2
  have h04 : μ1.1 0 4 = μ.1 0 4 := by rw [e1]; exact if_neg (fun h => by omega)
  rw [h04] at e2
  intro μ3 e3 μ4 e4 μ5 e5
  subst e1 e2 e3 e4 e5
  refine ⟨5, ?_⟩
  refine ⟨fun h => absurd h (by decide), fun _ => ⟨in_c (by decide) (by decide), fun μ6 e6 => ⟨fun h => absurd h (by decide), fun _ => ⟨in_c (by decide) (by decide), fun μ7 e7 => ⟨fun h => absurd h (by decide), fun _ => ⟨in_c (by decide) (by decide), fun μ8 e8 => ⟨fun h => absurd h (by decide), fun _ => ⟨in_c (by decide) (by decide), fun μ9 e9 => ⟨fun _ => ?_, fun h => absurd (by decide) h⟩⟩⟩⟩⟩⟩⟩⟩⟩
  subst e6 e7 e8 e9
  exact hq
theorem endM_one {t : Nat} {e : Int32} {μ : Mu} (ht : t < 4) : oneC t (endB (cT μ t) e (cG μ 4)) μ (endM μ t e) := by
  have h1 := oneC_F (μ := μ) (k := 23) (j := 7) (v := e) ht (by omega) (by omega)
  have h2 := oneC_F (μ := setF μ (23 + 17 * t) 7 e) (k := 23) (j := 12) (v := μ.1 0 4) ht (by omega) (by omega)
  rw [h1.2.2.2.1] at h2
  have h3 := oneC_J (μ := setF (setF μ (23 + 17 * t) 7 e) (23 + 17 * t) 12 (μ.1 0 4)) (t := t) (v := 0)
  rw [h2.2.2.2.1] at h3
  have h4 := oneC_F (μ := setJ (setF (setF μ (23 + 17 * t) 7 e) (23 + 17 * t) 12 (μ.1 0 4)) (24 + 17 * t) 0) (k := 29) (j := 2) (v := 0) ht (by omega) (by omega)
  rw [h3.2.2.2.1] at h4
  have h5 := oneC_F (μ := setF (setJ (setF (setF μ (23 + 17 * t) 7 e) (23 + 17 * t) 12 (μ.1 0 4)) (24 + 17 * t) 0) (29 + 17 * t) 2 0) (k := 33) (j := 1) (v := 0) ht (by omega) (by omega)
  rw [h4.2.2.2.1] at h5
  have h6 := oneC_A (μ := setF (setF (setJ (setF (setF μ (23 + 17 * t) 7 e) (23 + 17 * t) 12 (μ.1 0 4)) (24 + 17 * t) 0) (29 + 17 * t) 2 0) (33 + 17 * t) 1 0) (k := 32) (j := 0) (v := 0) ht (by omega) (by omega)
  rw [h5.2.2.2.1] at h6
  have h7 := oneC_A (μ := setA (setF (setF (setJ (setF (setF μ (23 + 17 * t) 7 e) (23 + 17 * t) 12 (μ.1 0 4)) (24 + 17 * t) 0) (29 + 17 * t) 2 0) (33 + 17 * t) 1 0) (32 + 17 * t) 0 0) (k := 32) (j := 1) (v := 0) ht (by omega) (by omega)
  rw [h6.2.2.2.1] at h7
  have h8 := oneC_A (μ := setA (setA (setF (setF (setJ (setF (setF μ (23 + 17 * t) 7 e) (23 + 17 * t) 12 (μ.1 0 4)) (24 + 17 * t) 0) (29 + 17 * t) 2 0) (33 + 17 * t) 1 0) (32 + 17 * t) 0 0) (32 + 17 * t) 1 0) (k := 32) (j := 2) (v := 0) ht (by omega) (by omega)
  rw [h7.2.2.2.1] at h8
  have h9 := oneC_A (μ := setA (setA (setA (setF (setF (setJ (setF (setF μ (23 + 17 * t) 7 e) (23 + 17 * t) 12 (μ.1 0 4)) (24 + 17 * t) 0) (29 + 17 * t) 2 0) (33 + 17 * t) 1 0) (32 + 17 * t) 0 0) (32 + 17 * t) 1 0) (32 + 17 * t) 2 0) (k := 32) (j := 3) (v := 0) ht (by omega) (by omega)
  rw [h8.2.2.2.1] at h9
  exact (((((((h1.tr h2).tr h3).tr h4).tr h5).tr h6).tr h7).tr h8).tr h9
theorem IT_end {sc : Nat} {B : TB} {e sl : Int32} (h : IT sc B) (he : ¬ e = 0) : IT sc (endB B e sl) := by
  obtain ⟨⟨-, -, a1⟩, a2, a3, a4, a5, a6, a7, a8, a9, a10⟩ := h
  have hR : isR sc 0 0 := ⟨0, Or.inl rfl, rfl⟩
  refine ⟨⟨⟨0, by omega, rfl⟩, ⟨0, by omega, rfl⟩, a1⟩, a2, a3, fun h => absurd h he, fun i hi => absurd hi (Nat.not_lt_zero _), ⟨hR, hR⟩, fun i hi => absurd hi (Nat.not_lt_zero _), fun r hr => ?_, a9, a10⟩
  have hr : tb 0 r = true := hr
  rw [tb_0] at hr; cases hr
theorem Fin_end {l : List Bool} {B : TB} {e sl : Int32} (h1 : ¬ e = 1) (h2 : ¬ e = 2) : Fin l (B.1 0 8) (B.1 0 9) (endB B e sl) := ⟨rfl, rfl, Or.inr ⟨fun h => h.elim h1 h2, rfl, rfl, rfl⟩⟩
theorem shSame_end {B : TB} {e sl : Int32} : shSame B (endB B e sl) := fun a k h1 h2 _ _ => by
  show (if a = 9 ∧ k = 3 then 0 else if a = 9 ∧ k = 2 then 0 else if a = 9 ∧ k = 1 then 0 else if a = 9 ∧ k = 0 then 0 else B.2.1 a k) = B.2.1 a k
  rw [if_neg (by omega), if_neg (by omega), if_neg (by omega), if_neg (by omega)]
-- the reference's
theorem clear97 {k : Nat} {ν : Mu} (hk : k < 4) : ∀ (m i : Nat) (f : Nat → Int32), i + m = 24 → (∀ c, c < i → f (24 * k + c) = 0) → (∀ c, 24 ≤ c → f (24 * k + c) = ν.2.1 97 (24 * k + c)) → (∀ y, y < 24 * k → f y = ν.2.1 97 y) →
    ∃ f', ((∀ c, c < 24 → f' (24 * k + c) = 0) ∧ (∀ c, 24 ≤ c → f' (24 * k + c) = ν.2.1 97 (24 * k + c)) ∧ (∀ y, y < 24 * k → f' y = ν.2.1 97 y)) ∧
      ∀ (K : Int32 → Mu → Prop) (Q : Mu → Prop), K (nI (24 * k + 24)) (setG ν 97 f') → wp_Mod_end_69 (nI k) K Q (m + 1) (nI (24 * k + i)) (setG ν 97 f) := by
  have h24 : (24 : Int32) * nI k + (24 : Int32) = nI (24 * k + 24) := by rw [show (24 : Int32) = nI 24 from rfl, pk_mul, nI_add]
  intro m
  induction m with
  | zero =>
    intro i f hi h1 h2 h3
    obtain rfl : i = 24 := by omega
    refine ⟨f, ⟨h1, h2, h3⟩, fun K Q hq => ⟨fun _ => hq, fun h => absurd ?_ h⟩⟩
    rw [h24]; exact nI_le (Nat.le_refl _) (by omega)
  | succ m ih =>
    intro i f hi h1 h2 h3
    have hcl : (nI (24 * k + i)).toNatClampNeg = 24 * k + i := nI_clamp (by omega)
    obtain ⟨f', hp, hgo⟩ := ih (i + 1) (upd f (24 * k + i) 0) (by omega) (fun c hc => by
        by_cases h : c = i
        · subst h; rw [pk_us]
        · rw [pk_un (by omega)]; exact h1 c (by omega)) (fun c hc => by rw [pk_un (by omega)]; exact h2 c (by omega)) (fun y hy => by rw [pk_un (by omega)]; exact h3 y hy)
    refine ⟨f', hp, fun K Q hq => ⟨fun h => ?_, fun _ => ⟨vp_in_nI (by omega) (by decide), fun μ16 e16 => ?_⟩⟩⟩
    · rw [h24] at h; exact absurd h (nI_ge (by omega) (by omega))
    · rw [hcl, gA] at e16
      rw [e16, nI_1]; exact hgo K Q hq
def endR0 (μ : Mu) (t : Nat) (e : Int32) : Mu := setA (setA (setA (setA (setA (setA (setA (setA μ 106 t e) 111 t (μ.1 91 32)) 112 t 0) 116 t 0) 114 (4 * t + 0) 0) 114 (4 * t + 1) 0) 114 (4 * t + 2) (-1)) 114 (4 * t + 3) (-1)
def endS0 (S : PB) (e sl : Int32) : PB := pA (pA (pA (pA (pF (pF (pF (pF S 106 e) 111 sl) 112 0) 116 0) 114 0 0) 114 1 0) 114 2 (-1)) 114 3 (-1)
theorem endR0_V {μ : Mu} {t : Nat} {e : Int32} : rV (endR0 μ t e) t = endS0 (rV μ t) e (rG μ 32) := by
  have h : ∀ (ν : Mu) (i : Nat) (v : Int32), i < 4 → rV (setA ν 114 (4 * t + i) v) t = pA (rV ν t) 114 i v := fun ν i v hi => rV_a (k := 114) rfl hi
  unfold endR0 endS0
  rw [h _ _ _ (by omega), h _ _ _ (by omega), h _ _ _ (by omega), h _ _ _ (by omega), rV_s (k := 116) rfl rfl, rV_s (k := 112) rfl rfl, rV_s (k := 111) rfl rfl, rV_s (k := 106) rfl rfl]
  rfl
theorem endR0_one {μ : Mu} {t : Nat} {e : Int32} (ht : t < 4) : oneR t μ (endR0 μ t e) := by
  have h : ∀ (ν : Mu) (i : Nat) (v : Int32), i < 4 → oneR t ν (setA ν 114 (4 * t + i) v) := fun ν i v hi => oneR_a (k := 114) ht rfl hi (by decide) (by omega)
  exact (((((((oneR_s (k := 106) rfl rfl (by omega)).tr (oneR_s (k := 111) rfl rfl (by omega))).tr (oneR_s (k := 112) rfl rfl (by omega))).tr (oneR_s (k := 116) rfl rfl (by omega))).tr (h _ _ _ (by omega))).tr (h _ _ _ (by omega))).tr (h _ _ _ (by omega))).tr (h _ _ _ (by omega))
theorem endR0_o {μ : Mu} {t a : Nat} {e : Int32} (h1 : a ≠ 106) (h2 : a ≠ 111) (h3 : a ≠ 112) (h4 : a ≠ 116) (h5 : a ≠ 114) : (endR0 μ t e).2.1 a = μ.2.1 a :=
  (a_o h5).trans ((a_o h5).trans ((a_o h5).trans ((a_o h5).trans ((a_o h4).trans ((a_o h3).trans ((a_o h2).trans (a_o h1)))))))
/-- the reference's end: the tenant's block may have been popped before -/
theorem end_ref {k : Nat} {e : Int32} {μ : Mu} (hk : k < 4) : ∃ μ', (∀ Q : Mu → Prop, Q μ' → wp_Mod_end (nI k) e μ Q) ∧ oneR k μ μ' ∧ (∀ B (x : Int32), RTg k B (rV μ k) → RTg k (endB (bF B 6 2 x) e (rG μ 32)) (rV μ' k)) ∧ μ'.2.1 108 = μ.2.1 108 := by
  obtain ⟨f', ⟨p1, p2, p3⟩, hgo⟩ := clear97 (ν := endR0 μ k e) hk 24 0 ((endR0 μ k e).2.1 97) (by omega) (fun c hc => absurd hc (by omega)) (fun _ _ => rfl) (fun _ _ => rfl)
  have one2 : oneR k (endR0 μ k e) (setG (endR0 μ k e) 97 f') := by
    refine ⟨rfl, fun a b1 b2 => funext fun x => ?_, fun u hu hne => rV_ext (fun a hs => ?_) (fun a i hs => ?_), fun a ha => g_o (by omega), clsEq.rf.G (by omega)⟩
    · show (if x < 8 then (setG (endR0 μ k e) 97 f').2.1 a (96 + x) else 0) = if x < 8 then (endR0 μ k e).2.1 a (96 + x) else 0
      rw [g_o (by omega)]
    · rw [g_o (fun h => by subst h; cases hs)]
    · by_cases h97 : a = 97
      · subst h97
        have hs : i < 24 := hs
        show (setG (endR0 μ k e) 97 f').2.1 97 (24 * u + i) = (endR0 μ k e).2.1 97 (24 * u + i)
        rw [g_at]
        rcases Nat.lt_or_gt_of_ne hne with h | h
        · exact p3 _ (by omega)
        · have := p2 (24 * u + i - 24 * k) (by omega)
          rw [show 24 * k + (24 * u + i - 24 * k) = 24 * u + i by omega] at this
          exact this
      · rw [g_o h97]
  refine ⟨setG (endR0 μ k e) 97 f', fun Q hq => ?_, (endR0_one hk).tr one2, fun B x hR => ?_, (g_o (by decide)).trans (endR0_o (by decide) (by decide) (by decide) (by decide) (by decide))⟩
  · refine ⟨in4 hk, fun μ2 e2 => ⟨in4 hk, fun μ4 e4 => ⟨in4 hk, fun μ6 e6 => ⟨in4 hk, fun μ8 e8 => ⟨5, ?_⟩⟩⟩⟩⟩
    rw [cl4 hk] at e2 e4 e6 e8
    have h32 : μ2.1 91 32 = μ.1 91 32 := by rw [e2]; rfl
    rw [h32] at e4
    have i0 : ∀ i, i < 4 → vp_in ((4 : Int32) * nI k + nI i) 16 ∧ ((4 : Int32) * nI k + nI i).toNatClampNeg = 4 * k + i := fun i hi => ⟨ix_le (w := 4) hk hi rfl (by omega), ix_cl (w := 4) hk hi (by omega)⟩
    refine ⟨fun h => absurd h (by decide), fun _ => ⟨fun h => absurd h (by decide), fun _ => ⟨(i0 0 (by omega)).1, fun μ9 e9 => ⟨fun h => absurd h (by decide), fun _ => ⟨fun h => absurd h (by decide), fun _ => ⟨(i0 1 (by omega)).1, fun μ10 e10 => ⟨fun h => absurd h (by decide), fun _ => ⟨fun _ => ⟨(i0 2 (by omega)).1, fun μ11 e11 => ⟨fun h => absurd h (by decide), fun _ => ⟨fun _ => ⟨(i0 3 (by omega)).1, fun μ12 e12 => ⟨fun _ => ⟨25, ?_⟩, fun h => absurd (by decide) h⟩⟩, fun h => absurd (by decide) h⟩⟩⟩, fun h => absurd (by decide) h⟩⟩⟩⟩⟩⟩⟩⟩
    have e9' : μ9 = setA μ8 114 (4 * k + 0) 0 := e9.trans (congrArg (fun z => setA μ8 114 z 0) (i0 0 (by omega)).2)
    have e10' : μ10 = setA μ9 114 (4 * k + 1) 0 := e10.trans (congrArg (fun z => setA μ9 114 z 0) (i0 1 (by omega)).2)
    have e11' : μ11 = setA μ10 114 (4 * k + 2) (-1) := e11.trans (congrArg (fun z => setA μ10 114 z (-1)) (i0 2 (by omega)).2)
    have e12' : μ12 = setA μ11 114 (4 * k + 3) (-1) := e12.trans (congrArg (fun z => setA μ11 114 z (-1)) (i0 3 (by omega)).2)
    have e13 : μ12 = endR0 μ k e := by rw [e12', e11', e10', e9', e8, e6, e4, e2]; rfl
    rw [e13, ← g_self (endR0 μ k e) 97, show (24 : Int32) * nI k = nI (24 * k + 0) by rw [show (24 : Int32) = nI 24 from rfl, pk_mul, Nat.add_zero]]
    exact hgo _ _ hq
  · have e1 : ∀ a, (rV (setG (endR0 μ k e) 97 f') k).1 a = (endS0 (rV μ k) e (rG μ 32)).1 a := by
      intro a
      rw [← endR0_V]
      show (if isS a = true then (setG (endR0 μ k e) 97 f').2.1 a k else 0) = if isS a = true then (endR0 μ k e).2.1 a k else 0
      by_cases hs : isS a = true
      · rw [if_pos hs, if_pos hs, g_o (fun h => by subst h; cases hs)]
      · rw [if_neg hs, if_neg hs]
    have e2 : ∀ a, a ≠ 97 → (rV (setG (endR0 μ k e) 97 f') k).2 a = (endS0 (rV μ k) e (rG μ 32)).2 a := by
      intro a ha
      rw [← endR0_V]
      funext i
      show (if i < wd a then (setG (endR0 μ k e) 97 f').2.1 a (wd a * k + i) else 0) = if i < wd a then (endR0 μ k e).2.1 a (wd a * k + i) else 0
      rw [g_o ha]
    have e97 : ∀ c, c < 24 → (rV (setG (endR0 μ k e) 97 f') k).2 97 c = 0 := by
      intro c hc
      show (if c < 24 then (setG (endR0 μ k e) 97 f').2.1 97 (24 * k + c) else 0) = 0
      rw [if_pos hc, g_at, p1 c hc]
    obtain ⟨⟨a1, a2, a3, a4, a5, a6⟩, ⟨b1, b2, b3, b4, b5, b6⟩, c1, ⟨d1, d2, d3, d4⟩, f1, f2, f3, f4, f5, f6⟩ := hR
    refine ⟨⟨?_, ?_, rfl, ?_, ?_, ?_⟩, ⟨?_, ?_, ?_, ?_, ?_, ?_⟩, ?_, ⟨?_, ?_, ?_, ?_⟩, fun i hi => absurd hi (Nat.not_lt_zero _), fun i hi => absurd hi (Nat.not_lt_zero _), ?_, ?_, fun c hc => ?_, fun c hc hb => ?_⟩
    · exact (e1 106).symm
    · exact a2.trans (e1 107).symm
    · exact a4.trans (e1 105).symm
    · exact a5.trans (e1 109).symm
    · exact (e1 111).symm
    · exact b1.trans (e1 104).symm
    · exact b2.trans (e1 110).symm
    · exact (e1 112).symm
    · exact (e1 116).symm
    · exact b5.trans (e1 118).symm
    · exact b6.trans (e1 120).symm
    · rw [e2 121 (by decide)]; exact c1
    · rw [e2 114 (by decide)]; rfl
    · rw [e2 114 (by decide)]; rfl
    · rw [e2 114 (by decide)]; rfl
    · rw [e2 114 (by decide)]; rfl
    · rw [e2 117 (by decide)]; exact f3
    · rw [e2 119 (by decide)]; exact f4
    · rw [e97 c hc]
      show (0 : Int32) = if tb 0 (9 + c) = true then 1 else 0
      rw [tb_0]; rfl
    · have hb : tb 0 (9 + c) = true := hb
      rw [tb_0] at hb; cases hb
