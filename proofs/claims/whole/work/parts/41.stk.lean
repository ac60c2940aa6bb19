/-! The stack, in both; the end of a tenant, in both. -/
def pushM (μ : Mu) (t d : Nat) (v b : Int32) : Mu := setF (setA (setA μ (30 + 17 * t) d v) (31 + 17 * t) d b) (29 + 17 * t) 2 (nI (d + 1))
def popM (μ : Mu) (t d : Nat) : Mu := setF μ (29 + 17 * t) 2 (nI d)
def pushB (B : TB) (d : Nat) (v b : Int32) : TB := bF (bA (bA B 7 d v) 8 d b) 6 2 (nI (d + 1))
def popB (B : TB) (d : Nat) : TB := bF B 6 2 (nI d)
theorem oneC.tr {k : Nat} {B B2 : TB} {μ μ1 μ2 : Mu} (h : oneC k B μ μ1) (h2 : oneC k B2 μ1 μ2) : oneC k B2 μ μ2 :=
  ⟨h2.1.trans h.1, fun p hp => (h2.2.1 p hp).trans (h.2.1 p hp), fun u hu hne => (h2.2.2.1 u hu hne).trans (h.2.2.1 u hu hne), h2.2.2.2.1, h.2.2.2.2.tr h2.2.2.2.2⟩
theorem oneC.rf {k : Nat} {μ : Mu} : oneC k (cT μ k) μ μ := ⟨rfl, fun _ _ => rfl, fun _ _ _ => rfl, rfl, refEq.rf⟩
theorem oneR.tr {k : Nat} {μ μ1 μ2 : Mu} (h : oneR k μ μ1) (h2 : oneR k μ1 μ2) : oneR k μ μ2 :=
  ⟨h2.1.trans h.1, fun a b1 b2 => (h2.2.1 a b1 b2).trans (h.2.1 a b1 b2), fun u hu hne => (h2.2.2.1 u hu hne).trans (h.2.2.1 u hu hne), fun a ha => (h2.2.2.2.1 a ha).trans (h.2.2.2.1 a ha), h.2.2.2.2.tr h2.2.2.2.2⟩
theorem oneR.rf {k : Nat} {μ : Mu} : oneR k μ μ := ⟨rfl, fun _ _ _ => rfl, fun _ _ _ => rfl, fun _ _ => rfl, clsEq.rf⟩
theorem oneC_F {μ : Mu} {t k j : Nat} {v : Int32} (ht : t < 4) (h1 : 23 ≤ k) (h2 : k < 40) : oneC t (bF (cT μ t) (k - 23) j v) μ (setF μ (k + 17 * t) j v) :=
  ⟨cG_F (by omega), fun p hp => cP_Fn (by omega), fun u hu hne => cT_Fn hne h1 h2, cT_F h1 h2, refEq.rf.F (by omega)⟩
theorem oneC_A {μ : Mu} {t k j : Nat} {v : Int32} (ht : t < 4) (h1 : 23 ≤ k) (h2 : k < 40) : oneC t (bA (cT μ t) (k - 23) j v) μ (setA μ (k + 17 * t) j v) :=
  ⟨rfl, fun p hp => cP_An (by omega), fun u hu hne => cT_An hne h1 h2, cT_A h1 h2, refEq.rf.A (by omega)⟩
theorem oneC_G {μ : Mu} {t k : Nat} {f : Nat → Int32} (ht : t < 4) (h1 : 23 ≤ k) (h2 : k < 40) : oneC t (bG (cT μ t) (k - 23) f) μ (setG μ (k + 17 * t) f) :=
  ⟨rfl, fun p hp => cP_Gn (by omega), fun u hu hne => cT_Gn hne h1 h2, cT_G h1 h2, refEq.rf.G (by omega)⟩
theorem oneC_J {μ : Mu} {t : Nat} {v : Int64} : oneC t (bJ (cT μ t) v) μ (setJ μ (24 + 17 * t) v) :=
  ⟨rfl, fun p hp => rfl, fun u hu hne => cT_Jn hne, cT_J, refEq.rf.J⟩
theorem oneR_s {μ : Mu} {t k : Nat} {v : Int32} (hk : isS k = true) (hw : wd k = 0) (h : 97 ≤ k) : oneR t μ (setA μ k t v) :=
  ⟨rfl, fun a b1 b2 => rS_A (Or.inl (fun e => by
    subst e
    have h3 : a = 98 ∨ a = 99 ∨ a = 100 := by omega
    rcases h3 with h3 | h3 | h3
    · rw [h3] at hk; cases hk
    · rw [h3] at hk; cases hk
    · rw [h3] at hk; cases hk)), fun u hu hne => rV_sn hne hw, fun a ha => a_o (by omega), clsEq.rf.A (by omega)⟩
theorem oneR_a {μ : Mu} {t k i : Nat} {v : Int32} (ht : t < 4) (hk : isS k = false) (hi : i < wd k) (hw : wd k ≤ 24) (h : 97 ≤ k) : oneR t μ (setA μ k (wd k * t + i) v) := by
  refine ⟨rfl, fun a b1 b2 => rS_A (Or.inr ?_), fun u hu hne => rV_an hne hk hi, fun a ha => a_o (by omega), clsEq.rf.A (by omega)⟩
  have : wd k * t ≤ wd k * 3 := Nat.mul_le_mul_left _ (by omega)
  omega
theorem bF_bF (B : TB) (k j : Nat) (x y : Int32) : bF (bF B k j x) k j y = bF B k j y := by
  unfold bF
  refine Prod.ext (funext fun a => funext fun b => ?_) rfl
  show (if a = k ∧ b = j then y else if a = k ∧ b = j then x else B.1 a b) = if a = k ∧ b = j then y else B.1 a b
  by_cases h : a = k ∧ b = j
  · rw [if_pos h, if_pos h]
  · rw [if_neg h, if_neg h, if_neg h]
theorem bF_self {B : TB} {k j : Nat} {v : Int32} (h : B.1 k j = v) : bF B k j v = B := by
  unfold bF
  refine Prod.ext (funext fun a => funext fun b => ?_) rfl
  show (if a = k ∧ b = j then v else B.1 a b) = B.1 a b
  split
  · next e => rw [e.1, e.2, h]
  · rfl
theorem popB_popB (B : TB) (x y : Nat) : popB (popB B x) y = popB B y := bF_bF _ _ _ _ _
theorem popB_self {B : TB} {d : Nat} (h : B.1 6 2 = nI d) : popB B d = B := bF_self h
theorem popM_one {μ : Mu} {t d : Nat} (ht : t < 4) : oneC t (popB (cT μ t) d) μ (popM μ t d) := oneC_F ht (by omega) (by omega)
theorem pushM_one {μ : Mu} {t d : Nat} {v b : Int32} (ht : t < 4) : oneC t (pushB (cT μ t) d v b) μ (pushM μ t d v b) := by
  have h1 := oneC_A (μ := μ) (k := 30) (j := d) (v := v) ht (by omega) (by omega)
  have h2 := oneC_A (μ := setA μ (30 + 17 * t) d v) (k := 31) (j := d) (v := b) ht (by omega) (by omega)
  have h3 := oneC_F (μ := setA (setA μ (30 + 17 * t) d v) (31 + 17 * t) d b) (k := 29) (j := 2) (v := nI (d + 1)) ht (by omega) (by omega)
  rw [h1.2.2.2.1] at h2
  rw [h2.2.2.2.1] at h3
  exact (h1.tr h2).tr h3
theorem take_ok {t d : Nat} {μ : Mu} {Q : Int32 → Mu → Prop} (hd : μ.1 (29 + 17 * t) 2 = nI (d + 1)) (h6 : d < 6) (hq : Q (μ.2.1 (30 + 17 * t) d) (popM μ t d)) : wp_Stk_take t μ Q := by
  have e1 : nI (d + 1) - 1 = nI d := nI_pred d
  refine ⟨fun h => ?_, fun _ => ?_⟩
  · rw [hd] at h; exact absurd h (nI_nle (by omega) (by omega))
  · rw [hd, e1, nI_clamp (by omega)]
    refine ⟨vp_in_nI h6 (by decide), fun μ3 e3 => ?_⟩
    rw [hd, e1] at e3
    have : (if (0 : Int32) < nI d then nI d else 0) = nI d := by
      by_cases h : (0 : Int32) < nI d
      · rw [if_pos h]
      · rw [if_neg h]
        rcases Nat.eq_zero_or_pos d with h0 | h0
        · rw [h0]; rfl
        · exact absurd (nI_lt (a := 0) h0 (by omega)) h
    rw [this] at e3
    rw [e3]; exact hq
theorem top_ok {t d : Nat} {μ : Mu} {Q : Int32 → Mu → Prop} (hd : μ.1 (29 + 17 * t) 2 = nI (d + 1)) (h6 : d < 6) (hq : Q (μ.2.1 (30 + 17 * t) d) μ) : wp_Stk_top t μ Q := by
  have e1 : nI (d + 1) - 1 = nI d := nI_pred d
  refine ⟨fun h => ?_, fun _ => ?_⟩
  · rw [hd] at h; exact absurd h (nI_nle (by omega) (by omega))
  · rw [hd, e1, nI_clamp (by omega)]
    exact ⟨vp_in_nI h6 (by decide), hq⟩
theorem put_ok {t d : Nat} {v b : Int32} {μ : Mu} {Q : Mu → Prop} (hd : μ.1 (29 + 17 * t) 2 = nI d) (h6 : d < 6) (hb : b = 0 ∨ b = 1) (hq : Q (pushM μ t d v b)) : wp_Stk_put t v b μ Q := by
  refine ⟨fun h => ?_, fun _ => ⟨?_, fun μ2 e2 => ?_⟩⟩
  · rw [hd] at h; exact absurd h (nI_ge (b := 6) h6 (by decide))
  · rw [hd]; exact vp_in_nI h6 (by decide)
  · subst e2
    have hd2 : (setA μ (30 + 17 * t) (μ.1 (29 + 17 * t) 2).toNatClampNeg v).1 (29 + 17 * t) 2 = nI d := hd
    rw [hd2]
    refine ⟨vp_in_nI h6 (by decide), hb, fun μ5 e5 μ6 e6 => ?_⟩
    subst e5 e6
    rw [hd, nI_clamp (by omega)]
    have hd3 : (setA (setA μ (30 + 17 * t) d v) (31 + 17 * t) d b).1 (29 + 17 * t) 2 = nI d := hd
    rw [hd3, nI_1]
    exact hq
theorem truth_ok {t d : Nat} {x : Int32} {μ : Mu} {Q : Mu → Prop} (hd : μ.1 (29 + 17 * t) 2 = nI d) (h6 : d < 6) (hx : x = 0 ∨ x = 1) (hq : Q (pushM μ t d x 0)) : wp_Stk_putTruth t x μ Q := by
  rcases hx with rfl | rfl
  · exact ⟨fun _ => put_ok hd h6 (Or.inl rfl) hq, fun h => absurd rfl h⟩
  · exact ⟨fun h => absurd h z1, fun _ => put_ok hd h6 (Or.inl rfl) hq⟩
theorem popM_d {μ : Mu} {t d : Nat} : (popM μ t d).1 (29 + 17 * t) 2 = nI d := if_pos ⟨rfl, rfl⟩
theorem popM_A {μ : Mu} {t d : Nat} : (popM μ t d).2.1 = μ.2.1 := rfl
-- the reference
def becM (μ : Mu) (t e : Nat) (w : Int32) : Mu := setA (setA (setA μ 112 t (nI e)) 113 (6 * t + e) w) 112 t (nI (e + 1))
def decM (μ : Mu) (t e : Nat) : Mu := setA μ 112 t (nI e)
def becS (S : PB) (e : Nat) (w : Int32) : PB := pF (pA (pF S 112 (nI e)) 113 e w) 112 (nI (e + 1))
theorem becM_one {μ : Mu} {t e : Nat} {w : Int32} (ht : t < 4) (he : e < 6) : oneR t μ (becM μ t e w) :=
  ((oneR_s (k := 112) rfl rfl (by omega)).tr (oneR_a (k := 113) (i := e) ht rfl he (by decide) (by omega))).tr (oneR_s (k := 112) rfl rfl (by omega))
theorem decM_one {μ : Mu} {t e : Nat} : oneR t μ (decM μ t e) := oneR_s (k := 112) rfl rfl (by omega)
theorem becM_V {μ : Mu} {t e : Nat} {w : Int32} (he : e < 6) : rV (becM μ t e w) t = becS (rV μ t) e w := by
  unfold becM becS
  rw [rV_s (k := 112) rfl rfl]
  congr 1
  rw [show rV (setA (setA μ 112 t (nI e)) 113 (6 * t + e) w) t = pA (rV (setA μ 112 t (nI e)) t) 113 e w from rV_a (k := 113) rfl he, rV_s (k := 112) rfl rfl]
theorem decM_V {μ : Mu} {t e : Nat} : rV (decM μ t e) t = pF (rV μ t) 112 (nI e) := rV_s (k := 112) rfl rfl
theorem becM_108 {μ : Mu} {t e : Nat} {w : Int32} : (becM μ t e w).2.1 108 = μ.2.1 108 := (a_o (by decide)).trans ((a_o (by decide)).trans (a_o (by decide)))
theorem decM_o {μ : Mu} {t e a : Nat} (h : a ≠ 112) : (decM μ t e).2.1 a = μ.2.1 a := a_o h
theorem value_ok {t d i : Nat} {μ : Mu} {Q : Int32 → Mu → Prop} (ht : t < 4) (hd : μ.2.1 112 t = nI d) (hi : i < d) (h6 : d ≤ 6) (hq : Q (μ.2.1 113 (6 * t + (d - 1 - i))) μ) : wp_Mod_value (nI t) (nI i) μ Q := by
  have e : (((6 : Int32) * nI t + nI d) - (1 : Int32)) - nI i = nI (6 * t + (d - 1 - i)) := by
    rw [show (6 : Int32) = nI 6 from rfl, show (1 : Int32) = nI 1 from rfl, pk_mul, nI_add, pk_sub (by omega), pk_sub (by omega)]
    congr 1
    omega
  refine ⟨in4 ht, ?_⟩
  rw [cl4 ht, hd, e, nI_clamp (by omega)]
  exact ⟨vp_in_nI (by omega) (by decide), hq⟩
theorem become_ok {t d n : Nat} {v : Int32} {μ : Mu} {Q : Mu → Prop} (ht : t < 4) (hd : μ.2.1 112 t = nI d) (hn : n ≤ d) (h6 : d - n < 6) (hq : Q (becM μ t (d - n) v)) : wp_Mod_become (nI t) (nI n) v μ Q := by
  refine ⟨in4 ht, in4 ht, fun μ3 e3 => ?_⟩
  rw [cl4 ht, hd, pk_sub hn] at e3
  have e112 : μ3.2.1 112 t = nI (d - n) := by rw [e3]; exact a_at
  have hix : (6 : Int32) * nI t + nI (d - n) = nI (6 * t + (d - n)) := by rw [show (6 : Int32) = nI 6 from rfl, pk_mul, nI_add]
  refine ⟨in4 ht, ?_⟩
  rw [cl4 ht, e112, hix, nI_clamp (by omega)]
  refine ⟨vp_in_nI (by omega) (by decide), fun μ6 e6 => ⟨in4 ht, in4 ht, fun μ9 e9 => ?_⟩⟩
  have e112' : μ6.2.1 112 t = nI (d - n) := by rw [e6, a_n (Or.inl (by decide))]; exact e112
  rw [e112', nI_1] at e9
  rw [e9, e6, e3]
  exact hq
theorem pF_pF (S : PB) (k : Nat) (x y : Int32) : pF (pF S k x) k y = pF S k y := by
  unfold pF
  refine Prod.ext (funext fun b => ?_) rfl
  show (if b = k then y else if b = k then x else S.1 b) = if b = k then y else S.1 b
  by_cases h : b = k
  · rw [if_pos h, if_pos h]
  · rw [if_neg h, if_neg h, if_neg h]
-- what they keep
theorem IT_pop {sc d e : Nat} {B : TB} (h : IT sc B) (hd : B.1 6 2 = nI d) (h6 : d ≤ 6) (he : e ≤ d) : IT sc (popB B e) := by
  obtain ⟨⟨-, a1⟩, a2, a3, a4, a5, a6⟩ := h
  refine ⟨⟨⟨e, by omega, rfl⟩, a1⟩, a2, a3, a4, fun i hi => a5 i ?_, a6⟩
  have hi : i < (nI e).toNatClampNeg := hi
  rw [nI_clamp (by omega)] at hi
  rw [hd, nI_clamp (by omega)]; omega
theorem IT_push {sc e : Nat} {B : TB} {v b : Int32} (h : IT sc B) (hd : B.1 6 2 = nI e) (he : e < 6) (hb : b = 0 ∨ (b = 1 ∧ isR sc B.2.2 v)) : IT sc (pushB B e v b) := by
  obtain ⟨⟨-, a1⟩, a2, a3, a4, a5, a6⟩ := h
  refine ⟨⟨⟨e + 1, by omega, rfl⟩, a1⟩, a2, a3, a4, fun i hi => ?_, a6⟩
  have hi : i < (nI (e + 1)).toNatClampNeg := hi
  rw [nI_clamp (by omega)] at hi
  show (if 8 = 8 ∧ i = e then b else B.2.1 8 i) = 0 ∨ ((if 8 = 8 ∧ i = e then b else B.2.1 8 i) = 1 ∧ isR sc B.2.2 (if 7 = 7 ∧ i = e then v else B.2.1 7 i))
  by_cases hie : i = e
  · rw [if_pos ⟨rfl, hie⟩, if_pos ⟨rfl, hie⟩]; exact hb
  · rw [if_neg (fun h => hie h.2), if_neg (fun h => hie h.2)]
    exact a5 i (by rw [hd, nI_clamp (by omega)]; omega)
theorem RTg_pop {t d e : Nat} {B : TB} {S : PB} (h : RTg t B S) (hd : B.1 6 2 = nI d) (h6 : d ≤ 6) (he : e ≤ d) : RTg t (popB B e) (pF S 112 (nI e)) := by
  obtain ⟨a, ⟨b1, b2, b3, b4⟩, c1, c2, f1, g⟩ := h
  refine ⟨a, ⟨b1, b2, rfl, b4⟩, c1, c2, fun i hi => f1 i ?_, g⟩
  have hi : i < (nI e).toNatClampNeg := hi
  rw [nI_clamp (by omega)] at hi
  show i < (B.1 6 2).toNatClampNeg
  rw [hd, nI_clamp (by omega)]; omega
theorem RTg_push {t d e : Nat} {B : TB} {S : PB} {v b w : Int32} (h : RTg t B S) (hd : B.1 6 2 = nI d) (h6 : d ≤ 6) (he : e ≤ d) (he6 : e < 6) (hw : w = if b = 0 then v else enc t v.toNatClampNeg) : RTg t (pushB (popB B e) e v b) (becS S e w) := by
  obtain ⟨a, ⟨b1, b2, b3, b4⟩, c1, c2, f1, g⟩ := h
  refine ⟨a, ⟨b1, b2, rfl, b4⟩, c1, c2, fun i hi => ?_, g⟩
  have hi : i < (nI (e + 1)).toNatClampNeg := hi
  rw [nI_clamp (by omega)] at hi
  show (if 113 = 113 ∧ i = e then w else S.2 113 i) = if (if 8 = 8 ∧ i = e then b else B.2.1 8 i) = 0 then (if 7 = 7 ∧ i = e then v else B.2.1 7 i) else enc t (if 7 = 7 ∧ i = e then v else B.2.1 7 i).toNatClampNeg
  by_cases hie : i = e
  · rw [if_pos (c := 113 = 113 ∧ i = e) ⟨rfl, hie⟩, if_pos (c := 8 = 8 ∧ i = e) ⟨rfl, hie⟩, if_pos (c := 7 = 7 ∧ i = e) ⟨rfl, hie⟩]; exact hw
  · rw [if_neg (c := 113 = 113 ∧ i = e) (fun h => hie h.2), if_neg (c := 8 = 8 ∧ i = e) (fun h => hie h.2), if_neg (c := 7 = 7 ∧ i = e) (fun h => hie h.2)]
    exact f1 i (by show i < (B.1 6 2).toNatClampNeg; rw [hd, nI_clamp (by omega)]; omega)
theorem tys_congr {ar ar' : Nat → Int32} : ∀ {d : Nat}, (∀ i, i < d → ar' i = ar i) → tys ar' d = tys ar d
  | 0, _ => rfl
  | d + 1, h => by
    show (ar' d != 0) :: tys ar' d = (ar d != 0) :: tys ar d
    rw [h d (by omega), tys_congr fun i hi => h i (by omega)]
theorem tys_push {B : TB} {e : Nat} {v b : Int32} : tys ((pushB B e v b).2.1 8) (e + 1) = (b != 0) :: tys (B.2.1 8) e := by
  show ((if 8 = 8 ∧ e = e then b else B.2.1 8 e) != 0) :: tys (fun i => if 8 = 8 ∧ i = e then b else B.2.1 8 i) e = _
  rw [if_pos ⟨rfl, rfl⟩, tys_congr fun i hi => if_neg fun h => by omega]
