/-! SEND: the copy. -/
def C1 (c t k : Nat) (F : Int64) (μ0 : Mu) (i : Nat) (μ1 : Mu) : Prop := InvX c t μ1 ∧ oneC k (cT μ1 k) μ0 μ1 ∧ ((cT μ1 k).1 = (cT μ0 k).1 ∧ ∀ a, 5 < a → (cT μ1 k).2.1 a = (cT μ0 k).2.1 a) ∧ (∀ r, tb (cT μ0 k).2.2 r = true → tb (cT μ1 k).2.2 r = true) ∧
  cnt (fun x => tb (cT μ1 k).2.2 (9 + x)) 24 ≤ cnt (fun x => tb (cT μ0 k).2.2 (9 + x)) 24 + cnt (fun x => tb F (9 + x)) i ∧ (∀ a r, 2 ≤ a → a ≤ 4 → (r < 9 ∨ tb (cT μ0 k).2.2 r = true) → (cT μ1 k).2.1 a r = (cT μ0 k).2.1 a r) ∧
  (∀ j, j < i → tb F (9 + j) = true → ∃ q, q < 24 ∧ (cT μ1 k).2.1 5 (9 + j) = nI (9 + q) ∧ tb (cT μ1 k).2.2 (9 + q) = true ∧ tb (cT μ0 k).2.2 (9 + q) = false)
def D1 (t k : Nat) (F : Int64) (fl : Nat → Int32) (μr0 : Mu) (i : Nat) (μ1 μr1 : Mu) : Prop := R2X t μ1 μr1 ∧ μr1.2.1 102 = fl ∧ (∀ j, j < i → tb F (9 + j) = true → μr1.2.1 103 (24 * t + j) = enc k ((cT μ1 k).2.1 5 (9 + j)).toNatClampNeg) ∧ oneR k μr0 μr1 ∧ (∀ a, 103 < a → μr1.2.1 a = μr0.2.1 a)
theorem cnt_one {f g : Nat → Bool} {c0 : Nat} (h : ∀ x, g x = true → f x = true ∨ x = c0) : ∀ n, cnt g n ≤ cnt f n + (if c0 < n then 1 else 0)
  | 0 => by simp [cnt]
  | n + 1 => by
    have ih := cnt_one h n
    show cnt g n + (if g n = true then 1 else 0) ≤ cnt f n + (if f n = true then 1 else 0) + (if c0 < n + 1 then 1 else 0)
    by_cases hg : g n = true
    · rw [if_pos hg]
      rcases h n hg with hf | hc
      · rw [if_pos hf]
        split at ih <;> split <;> omega
      · rw [if_neg (by omega)] at ih
        rw [if_pos (show c0 < n + 1 by omega)]
        omega
    · rw [if_neg hg]
      by_cases h1 : c0 < n
      · rw [if_pos h1] at ih
        rw [if_pos (show c0 < n + 1 by omega)]
        split <;> omega
      · rw [if_neg h1] at ih
        split <;> split <;> omega
theorem cnt_up (f : Nat → Bool) {a b : Nat} (h : a ≤ b) : cnt f a ≤ cnt f b := by
  obtain ⟨d, rfl⟩ := Nat.le.dest h
  rw [cnt_add]
  omega
/-- the sender's cells that are to be copied are as they were -/
theorem snd1 {c t k i : Nat} {F : Int64} {μ0 μ1 : Mu} (ht : t < 4) (hF0 : ∀ x, tb F x = true → tb (cT μ0 t).2.2 x = true) (h : C1 c t k F μ0 i μ1) {x : Nat} (hx : tb F x = true) : tb (cT μ1 t).2.2 x = true ∧ ∀ a, 2 ≤ a → a ≤ 4 → (cT μ1 t).2.1 a x = (cT μ0 t).2.1 a x := by
  by_cases hkt : t = k
  · subst hkt
    exact ⟨h.2.2.2.1 x (hF0 x hx), fun a b1 b2 => h.2.2.2.2.2.1 a x b1 b2 (Or.inr (hF0 x hx))⟩
  · rw [h.2.1.2.2.1 t ht hkt]
    exact ⟨hF0 x hx, fun _ _ _ => rfl⟩
theorem skip2 {w1 w2 : Int32} {K : Int32 → Mu → Prop} {Q : Int32 → Mu → Prop} {μr : Mu} {n : Nat} : ∀ (m i : Nat), (∀ v, i ≤ v → v < i + m → μr.2.1 102 v = 0) → i + m ≤ 96 → wp_Mod_copy_2 w1 w2 K Q n (nI (i + m)) μr → wp_Mod_copy_2 w1 w2 K Q (n + m) (nI i) μr
  | 0, i, _, _, h => h
  | m + 1, i, hz, hm, h => by
    refine ⟨fun h1 => absurd h1 (nI_ge (b := 96) (by omega) (by omega)), fun _ => ⟨vp_in_nI (by omega) (by decide), fun _ => ?_, fun h1 => ?_⟩⟩
    · rw [nI_1]
      exact skip2 m (i + 1) (fun v a b => hz v (by omega) (by omega)) (by omega) (by rw [show i + 1 + m = i + (m + 1) by omega]; exact h)
    · rw [nI_clamp (by omega)] at h1; exact absurd (hz i (by omega) (by omega)) h1
theorem skip42 {w1 : Int32} {K : Int32 → Mu → Prop} {Q : Int32 → Mu → Prop} {μr : Mu} {n : Nat} : ∀ (m i : Nat), (∀ v, i ≤ v → v < i + m → μr.2.1 102 v = 0) → i + m ≤ 96 → wp_Mod_copy_42 w1 K Q n (nI (i + m)) μr → wp_Mod_copy_42 w1 K Q (n + m) (nI i) μr
  | 0, i, _, _, h => h
  | m + 1, i, hz, hm, h => by
    refine ⟨fun h1 => absurd h1 (nI_ge (b := 96) (by omega) (by omega)), fun _ => ⟨vp_in_nI (by omega) (by decide), fun _ => ?_, fun h1 => ?_⟩⟩
    · rw [nI_1]
      exact skip42 m (i + 1) (fun v a b => hz v (by omega) (by omega)) (by omega) (by rw [show i + 1 + m = i + (m + 1) by omega]; exact h)
    · rw [nI_clamp (by omega)] at h1; exact absurd (hz i (by omega) (by omega)) h1
theorem copy1 {c t k cap : Nat} {F : Int64} {μ0 : Mu} (ht : t < 4) (hk : k < 4) (hal : (cT μ0 k).1 0 7 = 1 ∨ (cT μ0 k).1 0 7 = 2) (hF0 : ∀ x, tb F x = true → tb (cT μ0 t).2.2 x = true) (hc : cap ≤ 24) (hroom : cnt (fun x => tb (cT μ0 k).2.2 (9 + x)) 24 + cnt (fun x => tb F (9 + x)) 24 ≤ cap) :
    ∀ (m i : Nat) (μ1 : Mu), i + m = 24 → C1 c t k F μ0 i μ1 → ∃ μ2, C1 c t k F μ0 24 μ2 ∧ (∀ (w4 : Int32) (K : Int32 → Mu → Prop) (Q : Int32 → Mu → Prop), K (nI 33) μ2 → wp_Heap_copyFrom_4 k t F w4 K Q (m + 1) (nI (9 + i)) μ1) ∧
      ∀ (fl : Nat → Int32), (∀ v, v < 104 → (¬ fl v = 0 ↔ ∃ c, c < 24 ∧ v = 24 * t + c ∧ tb F (9 + c) = true)) → ∀ μr0 μr1, D1 t k F fl μr0 i μ1 μr1 → ∃ μr2, D1 t k F fl μr0 24 μ2 μr2 ∧ ∀ (w1 : Int32) (K : Int32 → Mu → Prop) (Q : Int32 → Mu → Prop) (n : Nat), wp_Mod_copy_2 w1 (nI k) K Q n (nI (24 * t + 24)) μr2 → wp_Mod_copy_2 w1 (nI k) K Q (n + m) (nI (24 * t + i)) μr1 := by
  intro m
  induction m with
  | zero =>
    intro i μ1 hi h
    obtain rfl : i = 24 := by omega
    exact ⟨μ1, h, fun w4 K Q hq => ⟨fun _ => hq, fun h => absurd (by decide) h⟩, fun fl hfl μr0 μr1 hd => ⟨μr1, hd, fun w1 K Q n hq => hq⟩⟩
  | succ m ih =>
    intro i μ1 hi h
    have hng : ¬ (33 : Int32) ≤ nI (9 + i) := nI_ge (b := 33) (by omega) (by omega)
    have hng2 : ¬ (96 : Int32) ≤ nI (24 * t + i) := nI_ge (b := 96) (by omega) (by omega)
    have hin : vp_in (nI (9 + i)) 33 := vp_in_nI (by omega) (by decide)
    have hin2 : vp_in (nI (24 * t + i)) 104 := vp_in_nI (by omega) (by decide)
    have hcl : (nI (9 + i)).toNatClampNeg = 9 + i := nI_clamp (by omega)
    have hcl2 : (nI (24 * t + i)).toNatClampNeg = 24 * t + i := nI_clamp (by omega)
    cases hb : tb F (9 + i) with
    | false =>
      have hs : cnt (fun x => tb F (9 + x)) (i + 1) = cnt (fun x => tb F (9 + x)) i := by
        show _ + (if tb F (9 + i) = true then 1 else 0) = _
        rw [hb]; rfl
      obtain ⟨a1, a2, a3, a4, a5, a6, a7⟩ := id h
      obtain ⟨μ2, b1, b2, b3⟩ := ih (i + 1) μ1 (by omega) ⟨a1, a2, a3, a4, by rw [hs]; exact a5, a6, fun j hj hj2 => a7 j (by
        have : j ≠ i := fun e => by rw [e, hb] at hj2; cases hj2
        omega) hj2⟩
      refine ⟨μ2, b1, fun w4 K Q hq => ⟨fun q => absurd q hng, fun _ => isin_no (by omega) hb ⟨fun _ => ?_, fun q => absurd rfl q⟩⟩, fun fl hfl μr0 μr1 hd => ?_⟩
      · rw [nI_1]; exact b2 w4 K Q hq
      · have hz : fl (24 * t + i) = 0 := Classical.byContradiction fun q => by
          obtain ⟨c', -, e, hb'⟩ := (hfl _ (by omega)).mp q
          rw [show c' = i by omega, hb] at hb'; cases hb'
        obtain ⟨e1, e2, e3, e4, e5⟩ := id hd
        obtain ⟨μr2, c1, c2⟩ := b3 fl hfl μr0 μr1 ⟨e1, e2, fun j hj hj2 => e3 j (by
          have : j ≠ i := fun e => by rw [e, hb] at hj2; cases hj2
          omega) hj2, e4, e5⟩
        refine ⟨μr2, c1, fun w1 K Q n hq => ⟨fun q => absurd q hng2, fun _ => ⟨hin2, fun _ => ?_, fun q => ?_⟩⟩⟩
        · rw [nI_1]; exact c2 w1 K Q n hq
        · rw [hcl2, e2] at q; exact absurd hz q
    | true =>
      obtain ⟨a1, a2, a3, a4, a5, a6, a7⟩ := id h
      have hs : cnt (fun x => tb F (9 + x)) (i + 1) = cnt (fun x => tb F (9 + x)) i + 1 := by
        show _ + (if tb F (9 + i) = true then 1 else 0) = _
        rw [hb]; rfl
      have hup := cnt_up (fun x => tb F (9 + x)) (show i + 1 ≤ 24 by omega)
      obtain ⟨c0, h0, hfr, hlo⟩ := free_ex (f := fun x => tb (cT μ1 k).2.2 (9 + x)) (by omega)
      have hfr : tb (cT μ1 k).2.2 (9 + c0) = false := hfr
      have hfr0 : tb (cT μ0 k).2.2 (9 + c0) = false := by
        cases hq : tb (cT μ0 k).2.2 (9 + c0) with
        | false => rfl
        | true => rw [a4 _ hq] at hfr; cases hfr
      obtain ⟨sm, sv⟩ := snd1 ht hF0 h hb
      have o1 := mkM_one (μ := μ1) (c0 := c0) (v := (cT μ1 t).2.1 2 (9 + i)) hk
      have o2 := oneC_A (μ := mkM μ1 k c0 ((cT μ1 t).2.1 2 (9 + i))) (k := 28) (j := 9 + i) (v := nI (9 + c0)) hk (by omega) (by omega)
      rw [o1.2.2.2.1] at o2
      have oo := o1.tr o2
      have e7 : (cT μ1 k).1 0 7 = (cT μ0 k).1 0 7 := by rw [a3.1]
      have hal1 : (cT μ1 k).1 0 7 = 1 ∨ (cT μ1 k).1 0 7 = 2 := by rw [e7]; exact hal
      have hIX : InvX c t (setA (mkM μ1 k c0 ((cT μ1 t).2.1 2 (9 + i))) (28 + 17 * k) (9 + i) (nI (9 + c0))) := by
        refine a1.one hk oo (fun sc h8 _ hI => ?_) (fun _ hY => ⟨hY.1, fun q => absurd hal1 q⟩) rfl
        obtain ⟨q1, q2, q3, q4, q5, q6, q7, q8, ⟨q9, q10⟩, q11⟩ := IT_make (v := (cT μ1 t).2.1 2 (9 + i)) h8 h0 hfr hI
        refine ⟨q1, q2, q3, q4, q5, q6, q7, q8, ⟨fun r hr => ?_, q10⟩, q11⟩
        show (if 5 = 5 ∧ r = 9 + i then nI (9 + c0) else (cT μ1 k).2.1 5 r) = nI r
        rw [if_neg (by omega)]; exact q9 r hr
      have hT := oo.2.2.2.1
      have hC : C1 c t k F μ0 (i + 1) (setA (mkM μ1 k c0 ((cT μ1 t).2.1 2 (9 + i))) (28 + 17 * k) (9 + i) (nI (9 + c0))) := by
        refine ⟨hIX, ?_, ?_, ?_, ?_, ?_, ?_⟩
        · rw [hT]; exact a2.tr oo
        · rw [hT]
          refine ⟨a3.1, fun a ha => funext fun b => ?_⟩
          show (if a = 5 ∧ b = 9 + i then nI (9 + c0) else if a = 4 ∧ b = 9 + c0 then 0 else if a = 3 ∧ b = 9 + c0 then 0 else if a = 2 ∧ b = 9 + c0 then (cT μ1 t).2.1 2 (9 + i) else (cT μ1 k).2.1 a b) = _
          rw [if_neg (by omega), if_neg (by omega), if_neg (by omega), if_neg (by omega), a3.2 a ha]
        · rw [hT]
          exact fun r hr => (mk_bit h0).mpr (Or.inl (a4 r hr))
        · rw [hT, hs]
          have := cnt_one (f := fun x => tb (cT μ1 k).2.2 (9 + x)) (g := fun x => tb ((cT μ1 k).2.2 ||| one (9 + c0)) (9 + x)) (c0 := c0) (fun x hx => ((mk_bit h0).mp hx).elim Or.inl (fun e => Or.inr (by omega))) 24
          rw [if_pos h0] at this
          show cnt (fun x => tb ((cT μ1 k).2.2 ||| one (9 + c0)) (9 + x)) 24 ≤ _
          omega
        · rw [hT]
          intro a r b1 b2 hr
          show (if a = 5 ∧ r = 9 + i then nI (9 + c0) else if a = 4 ∧ r = 9 + c0 then 0 else if a = 3 ∧ r = 9 + c0 then 0 else if a = 2 ∧ r = 9 + c0 then (cT μ1 t).2.1 2 (9 + i) else (cT μ1 k).2.1 a r) = _
          have hne : r ≠ 9 + c0 := fun e => by
            rcases hr with hr | hr
            · omega
            · rw [e, hfr0] at hr; cases hr
          rw [if_neg (by omega), if_neg (by omega), if_neg (by omega), if_neg (by omega)]
          exact a6 a r b1 b2 hr
        · rw [hT]
          intro j hj hj2
          show ∃ q, q < 24 ∧ (if 5 = 5 ∧ 9 + j = 9 + i then nI (9 + c0) else (cT μ1 k).2.1 5 (9 + j)) = nI (9 + q) ∧ tb ((cT μ1 k).2.2 ||| one (9 + c0)) (9 + q) = true ∧ _
          by_cases hji : j = i
          · rw [if_pos ⟨rfl, by omega⟩]
            exact ⟨c0, h0, rfl, (mk_bit h0).mpr (Or.inr rfl), hfr0⟩
          · rw [if_neg (by omega)]
            obtain ⟨q, q1, q2, q3, q4⟩ := a7 j (by omega) hj2
            exact ⟨q, q1, q2, (mk_bit h0).mpr (Or.inl q3), q4⟩
      obtain ⟨μ2, b1, b2, b3⟩ := ih (i + 1) _ (by omega) hC
      refine ⟨μ2, b1, fun w4 K Q hq => ⟨fun q => absurd q hng, fun _ => isin_yes (by omega) hb ⟨fun q => absurd q z1, fun _ => ⟨hin, ?_⟩⟩⟩, fun fl hfl μr0 μr1 hd => ?_⟩
      · have ev : μ1.2.1 (25 + 17 * t) (9 + i) = (cT μ1 t).2.1 2 (9 + i) := cTA (by omega) (by omega)
        rw [hcl, ev]
        refine make_c h0 hfr hlo ⟨hin, fun μ7 e7 => ?_⟩
        rw [e7, nI_1]; exact b2 w4 K Q hq
      · obtain ⟨e1, e2, e3, e4, e5⟩ := id hd
        have hfz : ¬ fl (24 * t + i) = 0 := (hfl _ (by omega)).mpr ⟨i, by omega, rfl, hb⟩
        have ok9 : okR (cG μ1 3).toNatClampNeg (cT μ1 t).2.2 (9 + i) := Or.inr (Or.inr ⟨by omega, by omega, sm⟩)
        have e98 := (cellB (B := bF (cT μ1 t) 0 9 ((rV μr1 t).1 108)) ht a1.sc.1 (e1.2.1 t ht).2.1 (e1.2.1 t ht).2.2 ok9 (by omega)).1
        rw [encN_own] at e98
        have th : ∀ x, x < 24 → μr1.2.1 97 (24 * k + x) = if tb (cT μ1 k).2.2 (9 + x) = true then 1 else 0 := fun x hx => by
          rw [show μr1.2.1 97 (24 * k + x) = (rV μr1 k).2 97 x from rVa (k := 97) hx]
          exact (e1.2.1 k hk).2.1.2.2.2.2.2.2.2.2.1 x hx
        have oR1 := mkR_one (μ := μr1) (k := k) (c0 := c0) (v := (cT μ1 t).2.1 2 (9 + i)) hk h0
        have oR2 : oneR k (mkR μr1 k c0 ((cT μ1 t).2.1 2 (9 + i))) (setA (mkR μr1 k c0 ((cT μ1 t).2.1 2 (9 + i))) 103 (24 * t + i) (nI (24 * k + c0))) :=
          ⟨rfl, fun a b1 b2 => rS_A (Or.inl (by omega)), fun u hu hne => rV_o rfl rfl, fun a ha => a_o (by omega), clsEq.rf.A (by omega)⟩
        have hV : rV (setA (mkR μr1 k c0 ((cT μ1 t).2.1 2 (9 + i))) 103 (24 * t + i) (nI (24 * k + c0))) k = mkS (rV μr1 k) c0 ((cT μ1 t).2.1 2 (9 + i)) := by rw [rV_o rfl rfl, mkR_V h0]
        have hR2 : R2X t (setA (mkM μ1 k c0 ((cT μ1 t).2.1 2 (9 + i))) (28 + 17 * k) (9 + i) (nI (9 + c0))) (setA (mkR μr1 k c0 ((cT μ1 t).2.1 2 (9 + i))) 103 (24 * t + i) (nI (24 * k + c0))) := by
          refine e1.one a1 hk oo (oR1.tr oR2) ⟨fun hkt => ?_, ?_⟩ (fun a r b1 b2 b3 b4 => ?_)
          · rw [hV]
            exact RT_make h0 ((e1.2.1 k hk).1 hkt)
          · rw [hV]
            exact RT_make h0 (e1.2.1 k hk).2.1
          · show (if a = 5 ∧ r = 9 + i then nI (9 + c0) else if a = 4 ∧ r = 9 + c0 then 0 else if a = 3 ∧ r = 9 + c0 then 0 else if a = 2 ∧ r = 9 + c0 then (cT μ1 t).2.1 2 (9 + i) else (cT μ1 k).2.1 a r) = _
            rw [if_neg (by omega), if_neg (by omega), if_neg (by omega), if_neg (by omega)]
        obtain ⟨μr2, c1, c2⟩ := b3 fl hfl μr0 (setA (mkR μr1 k c0 ((cT μ1 t).2.1 2 (9 + i))) 103 (24 * t + i) (nI (24 * k + c0))) ⟨hR2, by rw [a_o (by decide), mkR_o (Or.inr (by decide))]; exact e2, fun j hj hj2 => by
            rw [hT]
            show _ = enc k (if 5 = 5 ∧ 9 + j = 9 + i then nI (9 + c0) else (cT μ1 k).2.1 5 (9 + j)).toNatClampNeg
            by_cases hji : j = i
            · subst hji
              rw [a_at, if_pos ⟨rfl, rfl⟩, nI_clamp (by omega), enc_N (by omega), encN_own]
            · rw [a_n (Or.inr (by omega)), mkR_o (Or.inr (by decide)), if_neg (by omega)]
              exact e3 j (by omega) hj2, e4.tr (oR1.tr oR2), fun a ha => by rw [a_o (by omega), mkR_o (Or.inr (by omega))]; exact e5 a ha⟩
        refine ⟨μr2, c1, fun w1 K Q n hq => ⟨fun q => absurd q hng2, fun _ => ⟨hin2, fun q => ?_, fun _ => ⟨hin2, ?_⟩⟩⟩⟩
        · rw [hcl2, e2] at q; exact absurd q hfz
        · rw [hcl2, show μr1.2.1 98 (24 * t + i) = (cT μ1 t).2.1 2 (9 + i) from e98]
          refine make_r hk h0 ?_ (fun x hx => ?_) ⟨hin2, fun μ6 e6 => ?_⟩
          · rw [th c0 h0, hfr]; rfl
          · rw [th x (by omega), if_pos (hlo x hx)]; decide
          · rw [e6, nI_1]; exact c2 w1 K Q n hq
