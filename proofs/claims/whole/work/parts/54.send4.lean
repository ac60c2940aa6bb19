theorem copy_X {c t k r cap : Nat} {F : Int64} {μ0 : Mu} (hi : InvX c t μ0) (ht : t < 4) (hk : k < 4) (hal : (cT μ0 k).1 0 7 = 1 ∨ (cT μ0 k).1 0 7 = 2) (hr0 : okR (cG μ0 3).toNatClampNeg (cT μ0 t).2.2 r) (hrF : 9 ≤ r → tb F r = true) (hF0 : ∀ x, tb F x = true → tb (cT μ0 t).2.2 x = true)
    (hcl0 : ∀ x y, tb F x = true → ((cT μ0 t).2.1 3 x = nI y ∨ (cT μ0 t).2.1 4 x = nI y) → 9 ≤ y → y < 33 → tb F y = true) (hc : cap ≤ 24) (hroom : cnt (fun x => tb (cT μ0 k).2.2 (9 + x)) 24 + cnt (fun x => tb F (9 + x)) 24 ≤ cap) :
    ∃ pr μ2, C1 c t k F μ0 24 μ2 ∧ okR (cG μ2 3).toNatClampNeg (cT μ2 k).2.2 pr ∧ pr < 33 ∧ (∀ Q : Int32 → Mu → Prop, Q (nI pr) μ2 → wp_Heap_copyFrom k t F (nI r) μ0 Q) ∧
      ∀ (fl : Nat → Int32), (∀ v, v < 104 → (¬ fl v = 0 ↔ ∃ c, c < 24 ∧ v = 24 * t + c ∧ tb F (9 + c) = true)) → ∀ μr0, R2X t μ0 μr0 → μr0.2.1 102 = fl → ∃ μr2, D1 t k F fl μr0 24 μ2 μr2 ∧ ∀ Q : Int32 → Mu → Prop, Q (enc k pr) μr2 → wp_Mod_copy (enc t r) (nI k) μr0 Q := by
  have hC0 : C1 c t k F μ0 0 μ0 := ⟨hi, oneC.rf, ⟨rfl, fun _ _ => rfl⟩, fun _ h => h, Nat.le_add_right _ _, fun _ _ _ _ _ => rfl, fun j hj => absurd hj (by omega)⟩
  obtain ⟨μa, ca, wa, ra⟩ := copy1 ht hk hal hF0 hc hroom 24 0 μ0 (by omega) hC0
  obtain ⟨μ2, cb, wb, rb⟩ := copy2 ht hk hal (hi.it ht) hi.sc.1 hF0 hcl0 24 0 μa (by omega) ca
  obtain ⟨pr, p5, pok, p33, pcp⟩ := cp_ok ht hk cb hr0 hrF
  have r33 := okR_lt hi.sc.1 hr0
  refine ⟨pr, μ2, cb, pok, p33, fun Q hq => ⟨25, wa _ _ _ ⟨25, wb _ _ _ ⟨vp_in_nI r33 (by decide), ?_⟩⟩⟩, fun fl hfl μr0 hr e102 => ?_⟩
  · rw [nI_clamp (by omega), show μ2.2.1 (28 + 17 * k) r = (cT μ2 k).2.1 5 r from cTA (by omega) (by omega), p5]; exact hq
  · obtain ⟨μra, da, ga⟩ := ra fl hfl μr0 μr0 ⟨hr, e102, fun j hj => absurd hj (by omega), oneR.rf, fun _ _ => rfl⟩
    obtain ⟨μr2, db, gb⟩ := rb fl hfl μr0 μra da
    have z : ∀ {μ' : Mu}, μ'.2.1 102 = fl → ∀ v, v < 96 → (v < 24 * t ∨ 24 * t + 24 ≤ v) → μ'.2.1 102 v = 0 := fun {μ'} e v hv hout => by
      rw [e]
      refine Classical.byContradiction fun q => ?_
      obtain ⟨c', h', e', -⟩ := (hfl v (by omega)).mp q
      omega
    refine ⟨μr2, db, fun Q hq => ⟨1 + (72 - 24 * t) + 24 + 24 * t, ?_⟩⟩
    have fin2 : ∀ (K : Int32 → Mu → Prop) (Q : Int32 → Mu → Prop) (w1 w2 : Int32) (μ' : Mu), K (nI 96) μ' → wp_Mod_copy_2 w1 w2 K Q 1 (nI 96) μ' := fun K Q w1 w2 μ' h => ⟨fun _ => h, fun h => absurd (by decide) h⟩
    have fin42 : ∀ (K : Int32 → Mu → Prop) (Q : Int32 → Mu → Prop) (w1 : Int32) (μ' : Mu), K (nI 96) μ' → wp_Mod_copy_42 w1 K Q 1 (nI 96) μ' := fun K Q w1 μ' h => ⟨fun _ => h, fun h => absurd (by decide) h⟩
    refine skip2 (24 * t) 0 (fun v _ hv => z e102 v (by omega) (by omega)) (by omega) ?_
    rw [show 0 + 24 * t = 24 * t + 0 by omega]
    refine ga _ _ _ _ (skip2 (72 - 24 * t) (24 * t + 24) (fun v h1 h2 => z da.2.1 v (by omega) (by omega)) (by omega) ?_)
    rw [show 24 * t + 24 + (72 - 24 * t) = 96 by omega]
    refine fin2 _ _ _ _ _ ⟨1 + (72 - 24 * t) + 24 + 24 * t, skip42 (24 * t) 0 (fun v _ hv => z da.2.1 v (by omega) (by omega)) (by omega) ?_⟩
    rw [show 0 + 24 * t = 24 * t + 0 by omega]
    refine gb _ _ _ _ (skip42 (72 - 24 * t) (24 * t + 24) (fun v h1 h2 => z db.2.1 v (by omega) (by omega)) (by omega) ?_)
    rw [show 24 * t + 24 + (72 - 24 * t) = 96 by omega]
    exact fin42 _ _ _ _ (pcp fl μr0 μr2 db hfl _ hq)
