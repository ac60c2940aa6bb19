/-! room and hasRoom. -/
/-- room's loop: of tenant k's cells only the marked ones stay -/
theorem sweep_ok {k : Nat} {ν : Mu} (hk : k < 4) : ∀ (m i : Nat) (f : Nat → Int32), i + m = 24 → (∀ c, c < i → f (24 * k + c) = if ν.2.1 97 (24 * k + c) ≠ 0 ∧ ν.2.1 101 (24 * k + c) ≠ 0 then 1 else 0) → (∀ c, i ≤ c → f (24 * k + c) = ν.2.1 97 (24 * k + c)) → (∀ y, y < 24 * k → f y = ν.2.1 97 y) →
    ∃ f', ((∀ c, c < 24 → f' (24 * k + c) = if ν.2.1 97 (24 * k + c) ≠ 0 ∧ ν.2.1 101 (24 * k + c) ≠ 0 then 1 else 0) ∧ (∀ c, 24 ≤ c → f' (24 * k + c) = ν.2.1 97 (24 * k + c)) ∧ (∀ y, y < 24 * k → f' y = ν.2.1 97 y)) ∧
      ∀ (w2 : Int32) (K : Int32 → Mu → Prop) (Q : Int32 → Mu → Prop), K (nI (24 * k + 24)) (setG ν 97 f') → wp_Mod_room_39 (nI k) w2 K Q (m + 1) (nI (24 * k + i)) (setG ν 97 f) := by
  have h24 : (24 : Int32) * nI k + (24 : Int32) = nI (24 * k + 24) := by rw [show (24 : Int32) = nI 24 from rfl, pk_mul, nI_add]
  intro m
  induction m with
  | zero =>
    intro i f hi h1 h2 h3
    obtain rfl : i = 24 := by omega
    refine ⟨f, ⟨h1, h2, h3⟩, fun w2 K Q hq => ⟨fun _ => hq, fun h => absurd ?_ h⟩⟩
    rw [h24]; exact nI_le (Nat.le_refl _) (by omega)
  | succ m ih =>
    intro i f hi h1 h2 h3
    have hcl : (nI (24 * k + i)).toNatClampNeg = 24 * k + i := nI_clamp (by omega)
    have hin : vp_in (nI (24 * k + i)) 104 := vp_in_nI (by omega) (by decide)
    have hnx : nI (24 * k + i) + 1 = nI (24 * k + (i + 1)) := nI_1 _
    have hng : ¬ (24 : Int32) * nI k + (24 : Int32) ≤ nI (24 * k + i) := by rw [h24]; exact nI_ge (by omega) (by omega)
    have hfi := h2 i (Nat.le_refl _)
    have step : ∀ v : Int32, v = (if ν.2.1 97 (24 * k + i) ≠ 0 ∧ ν.2.1 101 (24 * k + i) ≠ 0 then 1 else 0) → _ := fun v hv => ih (i + 1) (upd f (24 * k + i) v) (by omega) (fun c hc => by
        by_cases h : c = i
        · subst h; rw [pk_us, hv]
        · rw [pk_un (by omega)]; exact h1 c (by omega)) (fun c hc => by rw [pk_un (by omega)]; exact h2 c (by omega)) (fun y hy => by rw [pk_un (by omega)]; exact h3 y hy)
    have a97 : (setG ν 97 f).2.1 97 (nI (24 * k + i)).toNatClampNeg = ν.2.1 97 (24 * k + i) := by rw [hcl, g_at, hfi]
    have a101 : (setG ν 97 f).2.1 101 (nI (24 * k + i)).toNatClampNeg = ν.2.1 101 (24 * k + i) := by rw [hcl, g_o (by decide)]
    by_cases hz : ν.2.1 97 (24 * k + i) = 0
    · obtain ⟨f', hp, hgo⟩ := step 0 (by rw [if_neg (fun h => h.1 hz)])
      refine ⟨f', hp, fun w2 K Q hq => ⟨fun h => absurd h hng, fun _ => ⟨hin, fun _ => ⟨hin, fun μ10 e10 => ?_⟩, fun h => ?_⟩⟩⟩
      · rw [hcl, gA] at e10
        rw [e10, hnx]; exact hgo w2 K Q hq
      · rw [a97] at h; exact absurd hz h
    · by_cases hm : ν.2.1 101 (24 * k + i) = 0
      · obtain ⟨f', hp, hgo⟩ := step 0 (by rw [if_neg (fun h => h.2 hm)])
        refine ⟨f', hp, fun w2 K Q hq => ⟨fun h => absurd h hng, fun _ => ⟨hin, fun h => ?_, fun _ => ⟨hin, fun _ => ⟨hin, fun μ10 e10 => ?_⟩, fun h => ?_⟩⟩⟩⟩
        · rw [a97] at h; exact absurd h hz
        · rw [hcl, gA] at e10
          rw [e10, hnx]; exact hgo w2 K Q hq
        · rw [a101] at h; exact absurd hm h
      · obtain ⟨f', hp, hgo⟩ := step 1 (by rw [if_pos ⟨hz, hm⟩])
        refine ⟨f', hp, fun w2 K Q hq => ⟨fun h => absurd h hng, fun _ => ⟨hin, fun h => ?_, fun _ => ⟨hin, fun h => ?_, fun _ => ⟨hin, fun μ10 e10 => ?_⟩⟩⟩⟩⟩
        · rw [a97] at h; exact absurd h hz
        · rw [a101] at h; exact absurd h hm
        · rw [hcl, gA] at e10
          rw [e10, hnx]; exact hgo w2 K Q hq
/-- one tenant of the reference's has changed -/
def oneR (k : Nat) (μ μ' : Mu) : Prop := rG μ' = rG μ ∧ (∀ a, 98 ≤ a → a ≤ 100 → rS μ' a = rS μ a) ∧ (∀ u, u < 4 → u ≠ k → rV μ' u = rV μ u) ∧ (∀ a, a ≤ 96 → μ'.2.1 a = μ.2.1 a) ∧ clsEq μ μ'
/-- one tenant of the class's has changed, and it is B now -/
def oneC (k : Nat) (B : TB) (μ μ' : Mu) : Prop := cG μ' = cG μ ∧ (∀ p, p < 4 → cP μ' p = cP μ p) ∧ (∀ u, u < 4 → u ≠ k → cT μ' u = cT μ u) ∧ cT μ' k = B ∧ refEq μ μ'
theorem rV_ext {μ μ' : Mu} {u : Nat} (h1 : ∀ a, isS a = true → μ'.2.1 a u = μ.2.1 a u) (h2 : ∀ a i, i < wd a → μ'.2.1 a (wd a * u + i) = μ.2.1 a (wd a * u + i)) : rV μ' u = rV μ u := by
  unfold rV
  refine Prod.ext (funext fun a => ?_) (funext fun a => funext fun b => ?_)
  · show (if isS a = true then μ'.2.1 a u else 0) = if isS a = true then μ.2.1 a u else 0
    by_cases ha : isS a = true
    · rw [if_pos ha, if_pos ha, h1 a ha]
    · rw [if_neg ha, if_neg ha]
  · show (if b < wd a then μ'.2.1 a (wd a * u + b) else 0) = if b < wd a then μ.2.1 a (wd a * u + b) else 0
    by_cases hb : b < wd a
    · rw [if_pos hb, if_pos hb, h2 a b hb]
    · rw [if_neg hb, if_neg hb]
theorem gc_gh (B : TB) (m : Int64) (cl q : Int32) : gcB (bF B 0 9 q) m cl = bF (gcB B m cl) 0 9 q := by
  unfold gcB bF bJ
  refine Prod.ext (funext fun a => funext fun b => ?_) rfl
  show (if a = 1 ∧ b = 6 then cl else if a = 0 ∧ b = 9 then q else B.1 a b) = if a = 0 ∧ b = 9 then q else if a = 1 ∧ b = 6 then cl else B.1 a b
  by_cases h1 : a = 1 ∧ b = 6
  · rw [if_pos h1, if_neg (fun h => by omega), if_pos h1]
  · rw [if_neg h1, if_neg h1]
theorem cGJ {μ : Mu} {k : Nat} {v : Int64} : cG (setJ μ k v) = cG μ := rfl
theorem hasRoom_ok {k n sc : Nat} {μ : Mu} (hk : k < 4) (h8 : sc ≤ 8) (hn : n ≤ 24) (hI : IT sc (cT μ k)) :
    ∃ (x : Int32) (μ' : Mu) (m : Int64) (cl : Int32), (x = 0 ∨ x = 1) ∧ oneC k (gcB (cT μ k) m cl) μ μ' ∧ IT sc (gcB (cT μ k) m cl) ∧ (∀ r, tb m r = true → tb (cT μ k).2.2 r = true) ∧ (∀ r, Rc (cT μ k) (rts (cT μ k)) r → tb m r = true) ∧
      (x = 1 → ∃ cap, cap ≤ 24 ∧ (cT μ k).1 1 5 = nI cap ∧ cnt (fun c => tb m (9 + c)) 24 + n ≤ cap) ∧ (∀ Q : Int32 → Mu → Prop, Q x μ' → wp_Ten_hasRoom k (nI n) μ Q) ∧
      ∀ (μr : Mu) (q : Int32) (d : Nat), RT k (bF (cT μ k) 0 9 q) (rV μr k) → RSh sc (cT μ k) (rS μr) → (cT μ k).1 6 2 = nI d → d ≤ 6 → ((cT μ k).1 0 7 = 0 → q = 0) →
        (d ≠ 0 → ∃ p pos, p < 4 ∧ pos < 24 ∧ μr.2.1 107 k = nI p ∧ μr.2.1 108 k = nI pos ∧ μr.2.1 94 (24 * p + pos) = nI (codeL (tys ((cT μ k).2.1 8) d))) →
        ∃ μr', (∀ Q : Int32 → Mu → Prop, Q x μr' → wp_Mod_room (nI k) (nI n) μr Q) ∧ RT k (bF (gcB (cT μ k) m cl) 0 9 q) (rV μr' k) ∧ oneR k μr μr' ∧ (∀ a, a ≠ 97 → a ≠ 101 → a ≠ 110 → μr'.2.1 a = μr.2.1 a) := by
  have eJ : μ.2.2 (24 + 17 * k) = (cT μ k).2.2 := rfl
  have ho := ownM hI
  obtain ⟨rr, ss, cap, -, -, hcap, -, -, -, ecap⟩ := hI.2.1
  have ec : μ.1 (24 + 17 * k) 5 = nI cap := (cTF (by omega) (by omega)).trans ecap
  have e6 : μ.1 (24 + 17 * k) 6 = (cT μ k).1 1 6 := cTF (by omega) (by omega)
  have hu := cnt_le (fun c => tb (cT μ k).2.2 (9 + c)) 24
  have ck : (nI k).toNatClampNeg = k := cl4 hk
  -- what the reference counts
  have cnR : ∀ (μr : Mu) (B : TB) (m : Int64), RT k B (rV μr k) → B.2.2 = m → cnt (fC μr k true) 24 = cnt (fun c => tb m (9 + c)) 24 := by
    intro μr B m hR hm
    subst hm
    refine cnt_congr fun c hc => ?_
    have h := hR.2.2.2.2.2.2.2.2.1 c hc
    have e : μr.2.1 97 (24 * k + c) = (rV μr k).2 97 c := rVa (k := 97) hc
    unfold fC
    rw [e, h]
    cases tb B.2.2 (9 + c) <;> simp
  have r104 : ∀ (μr : Mu) (B : TB), RT k B (rV μr k) → B.1 1 5 = nI cap → μr.2.1 104 k = nI cap := fun μr B hR hB => by rw [rVs (k := 104) rfl, ← hR.2.1.1, hB]
  by_cases hfit : cnt (fun c => tb (cT μ k).2.2 (9 + c)) 24 + n ≤ cap
  · refine ⟨1, μ, (cT μ k).2.2, (cT μ k).1 1 6, Or.inr rfl, ⟨rfl, fun _ _ => rfl, fun _ _ _ => rfl, (gc_self _).symm, refEq.rf⟩, by rw [gc_self]; exact hI, fun _ h => h, fun _ h => Rc_made h8 hI h, fun _ => ⟨cap, hcap, ecap, hfit⟩, fun Q hq => ?_, fun μr q d hR hS ed hd h0 hsh => ⟨μr, fun Q hq => ?_, by rw [gc_self]; exact hR, ⟨rfl, fun _ _ _ => rfl, fun _ _ _ => rfl, fun _ _ => rfl, clsEq.rf⟩, fun _ _ _ _ => rfl⟩⟩
    · refine fits_ok (by rw [eJ]; exact ho) ec hcap hn ?_
      rw [eJ, if_pos hfit]
      refine ⟨fun _ => fits_ok (by rw [eJ]; exact ho) ec hcap hn ?_, fun h => absurd h z1⟩
      rw [eJ, if_pos hfit]
      exact ⟨Or.inr rfl, hq⟩
    · refine counted_ok hk ?_
      rw [show decide ((0 : Int32) = 0) = true from rfl, cnR μr _ (cT μ k).2.2 hR rfl]
      refine ⟨in4 hk, fun h => ?_, fun _ => hq⟩
      rw [ck, r104 μr _ hR ecap, nI_add, nI_ltI (by omega) (by omega)] at h
      exact absurd h (Nat.not_lt.mpr hfit)
  -- a collection
  obtain ⟨F, hF, goF⟩ := live_ok h8 hI
  have hm : ∀ r, tb ((cT μ k).2.2 &&& F) r = true ↔ Rc (cT μ k) (rts (cT μ k)) r := by
    intro r
    rw [tb_and, Bool.and_eq_true, hF]
    exact ⟨fun h => h.2, fun h => ⟨Rc_made h8 hI h, h⟩⟩
  have hu2 := cnt_le (fun c => tb ((cT μ k).2.2 &&& F) (9 + c)) 24
  have hT1 : cT (setF (setJ μ (24 + 17 * k) ((cT μ k).2.2 &&& F)) (24 + 17 * k) 6 ((cT μ k).1 1 6 + 1)) k = gcB (cT μ k) ((cT μ k).2.2 &&& F) ((cT μ k).1 1 6 + 1) := by rw [cT_F (by omega) (by omega), cT_J]; rfl
  have hone : oneC k (gcB (cT μ k) ((cT μ k).2.2 &&& F) ((cT μ k).1 1 6 + 1)) μ (setF (setJ μ (24 + 17 * k) ((cT μ k).2.2 &&& F)) (24 + 17 * k) 6 ((cT μ k).1 1 6 + 1)) :=
    ⟨cG_F (by omega), fun p hp => cP_Fn (by omega), fun u hu hne => by rw [cT_Fn hne (by omega) (by omega), cT_Jn hne], hT1, (refEq.rf.J).F (by omega)⟩
  have hIT : IT sc (gcB (cT μ k) ((cT μ k).2.2 &&& F) ((cT μ k).1 1 6 + 1)) := IT_gc h8 hI hm
  refine ⟨if cnt (fun c => tb ((cT μ k).2.2 &&& F) (9 + c)) 24 + n ≤ cap then 1 else 0, _, (cT μ k).2.2 &&& F, (cT μ k).1 1 6 + 1, by split <;> simp, hone, hIT, fun r h => Rc_made h8 hI ((hm r).mp h), fun r h => (hm r).mpr h, fun hx => ⟨cap, hcap, ecap, ?_⟩, fun Q hq => ?_, fun μr q d hR hS ed hd h0 hsh => ?_⟩
  · refine Classical.byContradiction fun h => ?_
    rw [if_neg h] at hx; exact absurd hx (by decide)
  · refine fits_ok (by rw [eJ]; exact ho) ec hcap hn ?_
    rw [eJ, if_neg hfit]
    refine ⟨fun h => absurd rfl h, fun _ => goF _ (fun μ1 e1 => fun μ2 e2 => ?_)⟩
    rw [eJ] at e1
    subst e1
    have e2' : μ2 = setF (setJ μ (24 + 17 * k) ((cT μ k).2.2 &&& F)) (24 + 17 * k) 6 ((cT μ k).1 1 6 + 1) := by
      rw [e2]
      show setF _ _ _ (μ.1 (24 + 17 * k) 6 + 1) = _
      rw [e6]
    rw [e2']
    have eJ2 : (setF (setJ μ (24 + 17 * k) ((cT μ k).2.2 &&& F)) (24 + 17 * k) 6 ((cT μ k).1 1 6 + 1)).2.2 (24 + 17 * k) = (cT μ k).2.2 &&& F := if_pos rfl
    have ec2 : (setF (setJ μ (24 + 17 * k) ((cT μ k).2.2 &&& F)) (24 + 17 * k) 6 ((cT μ k).1 1 6 + 1)).1 (24 + 17 * k) 5 = nI cap := (if_neg (fun h => by omega)).trans ec
    refine fits_ok (by rw [eJ2]; exact fun r h => ((hm r).mp h).own) ec2 hcap hn ?_
    rw [eJ2]
    refine ⟨by split <;> simp, hq⟩
  · obtain ⟨mm, hmm, emm⟩ := hI.1.2.1
    obtain ⟨g, hg, go⟩ := markLive_ok (B := bF (cT μ k) 0 9 q) hk h8 (by
      obtain ⟨a1, a2, a3, a4, a5⟩ := hI
      exact ⟨a1, a2, a3, h0, a5⟩) hR hS ed hd emm hmm hsh
    have r110 : μr.2.1 110 k = (cT μ k).1 1 6 := by rw [rVs (k := 110) rfl, ← hR.2.1.2.1]; rfl
    have k104 := r104 μr _ hR ecap
    have kcn : cnt (fC μr k true) 24 = cnt (fun c => tb (cT μ k).2.2 (9 + c)) 24 := cnR μr _ (cT μ k).2.2 hR rfl
    obtain ⟨f', ⟨p1, p2, p3⟩, hgo⟩ := sweep_ok (ν := setA (stM μr g) 110 k ((cT μ k).1 1 6 + 1)) hk 24 0 ((setA (stM μr g) 110 k ((cT μ k).1 1 6 + 1)).2.1 97) (by omega) (fun c hc => absurd hc (by omega)) (fun _ _ => rfl) (fun _ _ => rfl)
    have n97 : (setA (stM μr g) 110 k ((cT μ k).1 1 6 + 1)).2.1 97 = μr.2.1 97 := (a_o (by decide)).trans (g_o (by decide))
    have n101 : (setA (stM μr g) 110 k ((cT μ k).1 1 6 + 1)).2.1 101 = g := (a_o (by decide)).trans g_at
    rw [n97, n101] at p1
    rw [n97] at p2 p3
    have arr : ∀ a, a ≠ 97 → a ≠ 101 → a ≠ 110 → (setG (setA (stM μr g) 110 k ((cT μ k).1 1 6 + 1)) 97 f').2.1 a = μr.2.1 a := fun a b1 b2 b3 => (g_o b1).trans ((a_o b3).trans (g_o b2))
    have a110 : ∀ u, u ≠ k → (setG (setA (stM μr g) 110 k ((cT μ k).1 1 6 + 1)) 97 f').2.1 110 u = μr.2.1 110 u := fun u hu => by
      rw [g_o (by decide), a_n (Or.inr hu)]; rfl
    have a110k : (setG (setA (stM μr g) 110 k ((cT μ k).1 1 6 + 1)) 97 f').2.1 110 k = (cT μ k).1 1 6 + 1 := by
      rw [g_o (by decide), a_at]
    have hRT : RT k (bF (gcB (cT μ k) ((cT μ k).2.2 &&& F) ((cT μ k).1 1 6 + 1)) 0 9 q) (rV (setG (setA (stM μr g) 110 k ((cT μ k).1 1 6 + 1)) 97 f') k) := by
      rw [← gc_gh]
      refine RT_gc hR (fun a ha => ?_) (fun a ha => funext fun i => ?_) ?_ (fun c hc => ?_) (fun r h => Rc_made h8 hI ((hm r).mp h))
      · show (if isS a = true then (setG (setA (stM μr g) 110 k ((cT μ k).1 1 6 + 1)) 97 f').2.1 a k else 0) = if isS a = true then μr.2.1 a k else 0
        by_cases hs : isS a = true
        · rw [if_pos hs, if_pos hs, arr a (fun h => by subst h; cases hs) (fun h => by subst h; cases hs) ha]
        · rw [if_neg hs, if_neg hs]
      · show (if i < wd a then (setG (setA (stM μr g) 110 k ((cT μ k).1 1 6 + 1)) 97 f').2.1 a (wd a * k + i) else 0) = if i < wd a then μr.2.1 a (wd a * k + i) else 0
        by_cases hs : i < wd a
        · rw [if_pos hs, if_pos hs, arr a ha (fun h => by subst h; exact absurd hs (Nat.not_lt_zero _)) (fun h => by subst h; exact absurd hs (Nat.not_lt_zero _))]
        · rw [if_neg hs, if_neg hs]
      · exact a110k
      · show (if c < 24 then (setG (setA (stM μr g) 110 k ((cT μ k).1 1 6 + 1)) 97 f').2.1 97 (24 * k + c) else 0) = _
        rw [if_pos hc, g_at, p1 c hc]
        have e : (rV μr k).2 97 c = if tb (cT μ k).2.2 (9 + c) = true then 1 else 0 := hR.2.2.2.2.2.2.2.2.1 c hc
        have e' : μr.2.1 97 (24 * k + c) = (rV μr k).2 97 c := rVa (k := 97) hc
        have hgc := hg c hc
        have hmc := hm (9 + c)
        by_cases hR9 : Rc (cT μ k) (rts (cT μ k)) (9 + c)
        · rw [if_pos (hmc.mpr hR9), if_pos]
          refine ⟨?_, hgc.mpr hR9⟩
          rw [e', e, if_pos (Rc_made h8 hI hR9)]; decide
        · rw [if_neg (fun h => hR9 (hmc.mp h)), if_neg (fun h => hR9 (hgc.mp h.2))]
    refine ⟨_, fun Q hq => ?_, hRT, ⟨rfl, fun a b1 b2 => funext fun x => ?_, fun u hu hne => ?_, fun a ha => arr a (by omega) (by omega) (by omega), ((clsEq.rf.G (by omega)).A (by omega)).G (by omega)⟩, arr⟩
    · refine counted_ok hk ?_
      rw [show decide ((0 : Int32) = 0) = true from rfl, kcn]
      refine ⟨in4 hk, fun _ => go _ ⟨in4 hk, in4 hk, fun μ7 e7 => ⟨25, ?_⟩⟩, fun h => ?_⟩
      · have e7' : μ7 = setA (stM μr g) 110 k ((cT μ k).1 1 6 + 1) := by rw [e7, ck, stM_o (by decide), r110]
        rw [e7', ← g_self (setA (stM μr g) 110 k ((cT μ k).1 1 6 + 1)) 97, show (24 : Int32) * nI k = nI (24 * k + 0) by rw [show (24 : Int32) = nI 24 from rfl, pk_mul, Nat.add_zero]]
        refine hgo _ _ _ (counted_ok hk ?_)
        rw [show decide ((0 : Int32) = 0) = true from rfl, cnR _ _ ((cT μ k).2.2 &&& F) hRT rfl]
        have kk := r104 _ _ hRT ecap
        refine ⟨in4 hk, fun h => ?_, fun h => ?_⟩
        · rw [ck, kk, nI_add, nI_ltI (by omega) (by omega)] at h
          rw [if_neg (by omega)] at hq; exact hq
        · rw [ck, kk, nI_add, nI_ltI (by omega) (by omega)] at h
          rw [if_pos (by omega)] at hq; exact hq
      · rw [ck, k104, nI_add, nI_ltI (by omega) (by omega)] at h
        exact absurd (by omega) h
    · show (if x < 8 then (setG (setA (stM μr g) 110 k ((cT μ k).1 1 6 + 1)) 97 f').2.1 a (96 + x) else 0) = if x < 8 then μr.2.1 a (96 + x) else 0
      rw [arr a (by omega) (by omega) (by omega)]
    · refine rV_ext (fun a hs => ?_) (fun a i hs => ?_)
      · by_cases h110 : a = 110
        · subst h110; exact a110 u hne
        · rw [arr a (fun h => by subst h; cases hs) (fun h => by subst h; cases hs) h110]
      · by_cases h97 : a = 97
        · subst h97
          have hs : i < 24 := hs
          show (setG (setA (stM μr g) 110 k ((cT μ k).1 1 6 + 1)) 97 f').2.1 97 (24 * u + i) = μr.2.1 97 (24 * u + i)
          rw [g_at]
          rcases Nat.lt_or_gt_of_ne hne with h | h
          · exact p3 _ (by omega)
          · have := p2 (24 * u + i - 24 * k) (by omega)
            rw [show 24 * k + (24 * u + i - 24 * k) = 24 * u + i by omega] at this
            exact this
        · rw [arr a h97 (fun h => by subst h; exact absurd hs (Nat.not_lt_zero _)) (fun h => by subst h; exact absurd hs (Nat.not_lt_zero _))]
