/-! Sealing in the reference. -/
def rM (μ : Mu) (p : Nat) (S : Nat → Nat) : Mu := (μ.1, fun k i => if k = 94 ∧ 24 * p ≤ i ∧ i < 24 * p + 24 then nI (S (i - 24 * p)) else μ.2.1 k i, μ.2.2)
theorem rM_S {μ : Mu} {p i : Nat} {S : Nat → Nat} (h : i < 24) : (rM μ p S).2.1 94 (24 * p + i) = nI (S i) := by
  show (if 94 = 94 ∧ 24 * p ≤ 24 * p + i ∧ 24 * p + i < 24 * p + 24 then nI (S (24 * p + i - 24 * p)) else μ.2.1 94 (24 * p + i)) = _
  rw [if_pos ⟨rfl, by omega, by omega⟩, show 24 * p + i - 24 * p = i by omega]
theorem rM_o {μ : Mu} {p k i : Nat} {S : Nat → Nat} (h : k ≠ 94) : (rM μ p S).2.1 k i = μ.2.1 k i := if_neg (fun e => h e.1)
theorem rM_set {μ : Mu} {p s v : Nat} {S : Nat → Nat} (h : s < 24) : setA (rM μ p S) 94 (24 * p + s) (nI v) = rM μ p (upS S s v) := by
  unfold rM setA upS
  refine Prod.ext rfl (Prod.ext (funext fun a => funext fun b => ?_) rfl)
  show (if a = 94 ∧ b = 24 * p + s then nI v else if a = 94 ∧ 24 * p ≤ b ∧ b < 24 * p + 24 then nI (S (b - 24 * p)) else μ.2.1 a b) = if a = 94 ∧ 24 * p ≤ b ∧ b < 24 * p + 24 then nI (if b - 24 * p = s then v else S (b - 24 * p)) else μ.2.1 a b
  by_cases h1 : a = 94 ∧ 24 * p ≤ b ∧ b < 24 * p + 24
  · rw [if_pos h1, if_pos h1]
    by_cases h2 : b = 24 * p + s
    · rw [if_pos ⟨h1.1, h2⟩, if_pos (by omega)]
    · rw [if_neg (fun e => h2 e.2), if_neg (by omega)]
  · rw [if_neg h1, if_neg h1, if_neg (by omega)]
theorem upS_same {S : Nat → Nat} {s v : Nat} (h : S s = v) : upS S s v = S := by
  funext j
  unfold upS
  by_cases e : j = s
  · rw [if_pos e, e, h]
  · rw [if_neg e]
theorem mreach_some {μ : Mu} {p n s v : Nat} {S S' : Nat → Nat} (hp4 : p < 4) (hn : n ≤ 24) (h95 : μ.2.1 95 p = nI n) (hb : ∀ j, S j < 128) (hv : v ≠ 0) (hv2 : v < 128) (h : rchS n S s v = some S') {Q : Int32 → Mu → Prop} (hq : Q 1 (rM μ p S')) : wp_Mod_reach (nI p) (nI s) (nI v) (rM μ p S) Q := by
  have hs := (rch_some h hv).1
  have hix : ((24 : Int32) * nI p + nI s).toNatClampNeg = 24 * p + s := ix_cl (w := 24) hp4 (by omega) (by omega)
  have hin : vp_in ((24 : Int32) * nI p + nI s) 96 := ix_le (w := 24) hp4 (by omega) rfl (by omega)
  have hbs := hb s
  unfold wp_Mod_reach
  rw [cl4 hp4, rM_o (by decide), h95, hix, rM_S (by omega)]
  refine ⟨in4 hp4, fun _ => ⟨hin, fun h0 => ⟨hin, fun μ4 e4 => ?_⟩, fun h0 => ⟨hin, fun h1 => ⟨hin, fun μ7 e7 => ?_⟩, fun h1 => ?_⟩⟩, fun h => absurd (nI_lt hs (by omega)) h⟩
  · rw [rM_set (by omega)] at e4
    subst e4
    have h0 : S s = 0 := (nI_eq (b := 0) (by omega) (by decide)).mp h0
    unfold rchS at h
    rw [if_pos hs, if_pos h0] at h
    rw [Option.some.inj h]
    exact hq
  · rw [rM_set (by omega)] at e7
    subst e7
    have h0 : S s ≠ 0 := fun e => h0 (by rw [e]; rfl)
    have h1 : S s = v := (nI_eq (by omega) (by omega)).mp h1
    unfold rchS at h
    rw [if_pos hs, if_neg h0, if_pos h1] at h
    rw [upS_same h1, Option.some.inj h]
    exact hq
  · have h0 : S s ≠ 0 := fun e => h0 (by rw [e]; rfl)
    have h1 : S s ≠ v := fun e => h1 (by rw [e])
    unfold rchS at h
    rw [if_pos hs, if_neg h0, if_neg h1] at h
    exact absurd h (by simp)
theorem mreach_none {μ : Mu} {p n s v : Nat} {S : Nat → Nat} (hp4 : p < 4) (hn : n ≤ 24) (h95 : μ.2.1 95 p = nI n) (hb : ∀ j, S j < 128) (hs2 : s < 2 ^ 31) (hv2 : v < 128) (h : rchS n S s v = none) {Q : Int32 → Mu → Prop} (hq : Q 0 (rM μ p S)) : wp_Mod_reach (nI p) (nI s) (nI v) (rM μ p S) Q := by
  unfold wp_Mod_reach
  rw [cl4 hp4, rM_o (by decide), h95]
  by_cases hs : s < n
  · have hix : ((24 : Int32) * nI p + nI s).toNatClampNeg = 24 * p + s := ix_cl (w := 24) hp4 (by omega) (by omega)
    have hin : vp_in ((24 : Int32) * nI p + nI s) 96 := ix_le (w := 24) hp4 (by omega) rfl (by omega)
    have hbs := hb s
    rw [hix, rM_S (by omega)]
    unfold rchS at h
    rw [if_pos hs] at h
    by_cases h0 : S s = 0
    · rw [if_pos h0] at h; exact absurd h (by simp)
    rw [if_neg h0] at h
    by_cases h1 : S s = v
    · rw [if_pos h1] at h; exact absurd h (by simp)
    exact ⟨in4 hp4, fun _ => ⟨hin, fun h => absurd h (nI_ne0 (by omega) (by omega)), fun _ => ⟨hin, fun h => absurd ((nI_eq (by omega) (by omega)).mp h) h1, fun _ => hq⟩⟩, fun h => absurd (nI_lt hs (by omega)) h⟩
  · exact ⟨in4 hp4, fun h => absurd h (nI_nlt (by omega) hs2), fun _ => hq⟩
/-- a program's place, as it is in the reference's rows -/
def PlR (μ : Mu) (p : Nat) (o g : Nat → Nat) (i : Nat) : Prop := o i < 25 ∧ μ.2.1 92 (24 * p + i) = nI (o i) ∧ gA2 (o i) (μ.2.1 93 (24 * p + i)) ∧ g i = (μ.2.1 93 (24 * p + i)).toNatClampNeg
theorem PlR.arg {μ : Mu} {p i : Nat} {o g : Nat → Nat} (h : PlR μ p o g i) (ho : o i = 17 ∨ o i = 18) : μ.2.1 93 (24 * p + i) = nI (g i) ∧ g i < 24 := by
  obtain ⟨h1, h2, h3, h4⟩ := h
  rcases h3 with h3 | ⟨a, ha, hae⟩
  · omega
  · have := (hiA_ok (o i) h1).2
    rw [hae, nI_clamp (by omega)] at h4
    rw [h4, hae]
    exact ⟨rfl, by omega⟩
theorem flo87 {M : Mu} {p i op w : Nat} {Q : Int32 → Mu → Prop} (ho : op < 25) (h1 : op = 0 ∨ op = 17 → Q 1 M) (h2 : ¬ (op = 0 ∨ op = 17) → wp_Mod_reach (nI p) (nI (i + 1)) (nI w) M (fun x11 μ10 => (((x11 = 0) → Q (0 : Int32) μ10) ∧ ((¬ x11 = 0) → Q (1 : Int32) μ10)))) : wp_Mod_flows_j87 (nI p) (nI i) (nI op) (nI w) 1 M Q := by
  unfold wp_Mod_flows_j87
  rw [nI_1]
  exact ⟨fun h => absurd h z1, fun _ => pk_eq (y := 0) op 0 (fun h => h1 (Or.inl h)) (fun h => pk_eq (y := 17) op 17 (fun h' => h1 (Or.inr h')) (fun h' => h2 (by omega)))⟩
theorem flows_go {μ : Mu} {p n i : Nat} {o g S : Nat → Nat} (hp : PlR μ p o g i) (hp4 : p < 4) (hn : n ≤ 24) (hi : i < n) (hb : ∀ j, S j < 128) {Q : Int32 → Mu → Prop}
    (h1 : S i = 0 → Q 1 (rM μ p S)) (hz : S i ≠ 0 → nx o g i (S i) = 0 → Q 0 (rM μ p S))
    (hj : S i ≠ 0 → nx o g i (S i) ≠ 0 → o i = 17 ∨ o i = 18 → wp_Mod_reach (nI p) (nI (g i)) (nI (nx o g i (S i))) (rM μ p S) (fun x9 μ8 => (((x9 = 0) → wp_Mod_flows_j87 (nI p) (nI i) (nI (o i)) (nI (nx o g i (S i))) (0 : Int32) μ8 Q) ∧ ((¬ x9 = 0) → wp_Mod_flows_j82 (nI p) (nI i) (nI (o i)) (nI (nx o g i (S i))) μ8 Q))))
    (hr : S i ≠ 0 → nx o g i (S i) ≠ 0 → ¬ (o i = 17 ∨ o i = 18) → wp_Mod_flows_j82 (nI p) (nI i) (nI (o i)) (nI (nx o g i (S i))) (rM μ p S) Q) : wp_Mod_flows (nI p) (nI i) (rM μ p S) Q := by
  have hix : ((24 : Int32) * nI p + nI i).toNatClampNeg = 24 * p + i := ix_cl (w := 24) hp4 (by omega) (by omega)
  have hin : vp_in ((24 : Int32) * nI p + nI i) 96 := ix_le (w := 24) hp4 (by omega) rfl (by omega)
  have hw : nx o g i (S i) < 128 := af_lt
  have hbi := hb i
  have ho := hp.1
  unfold wp_Mod_flows
  rw [hix, rM_S (by omega), rM_o (by decide), rM_o (by decide), hp.2.1]
  refine ⟨hin, hin, fun h => ?_, fun h => h1 ((nI_eq (b := 0) (by omega) (by decide)).mp h)⟩
  have h0 : S i ≠ 0 := fun e => h (by rw [e]; rfl)
  refine ⟨hin, hin, after_ref hp.1 hp.2.2.1 hbi h0 ?_⟩
  rw [← hp.2.2.2, show af (o i) (g i) (S i) = nx o g i (S i) from rfl]
  refine ⟨fun hx => ?_, fun hx => hz h0 ((nI_eq (b := 0) (by omega) (by decide)).mp hx)⟩
  have hx0 : nx o g i (S i) ≠ 0 := fun e => hx (by rw [e]; rfl)
  have h66 : o i = 17 ∨ o i = 18 → wp_Mod_flows_j66 (nI p) (nI i) ((24 : Int32) * nI p + nI i) (nI (o i)) (nI (nx o g i (S i))) (rM μ p S) Q := fun hj2 => by
    refine ⟨hin, ?_⟩
    rw [hix, rM_o (by decide), (hp.arg hj2).1]
    exact hj h0 hx0 hj2
  exact pk_eq (y := 17) (o i) 17 (fun h => h66 (Or.inl h)) (fun h => ⟨fun h2 => hr h0 hx0 (fun e => h2 (by rw [e.resolve_left h]; rfl)), fun h2 => h66 (Or.inr ((nI_eq (b := 18) (by omega) (by decide)).mp h2))⟩)
theorem flows_some {μ : Mu} {p n i : Nat} {o g S S' : Nat → Nat} (hp : PlR μ p o g i) (hp4 : p < 4) (hn : n ≤ 24) (h95 : μ.2.1 95 p = nI n) (hi : i < n) (h0 : S i ≠ 0) (hb : ∀ j, S j < 128) (h : floS n o g S i = some S') {Q : Int32 → Mu → Prop} (hq : Q 1 (rM μ p S')) : wp_Mod_flows (nI p) (nI i) (rM μ p S) Q := by
  have hw : nx o g i (S i) < 128 := af_lt
  have hx : nx o g i (S i) ≠ 0 := fun e => by
    unfold floS at h
    rw [if_pos e] at h
    exact absurd h (by simp)
  rw [flo_cases hx] at h
  refine flows_go hp hp4 hn hi hb (fun h => absurd h h0) (fun _ h => absurd h hx) (fun _ _ hj => ?_) (fun _ _ hj => ?_)
  · rw [if_pos hj] at h
    cases e : rchS n S (g i) (nx o g i (S i)) with
    | none => rw [e] at h; exact absurd h (by simp)
    | some S1 =>
      rw [e] at h
      have h : (if o i = 0 ∨ o i = 17 then some S1 else rchS n S1 (i + 1) (nx o g i (S i))) = some S' := h
      have hb1 := (rch_some e hx).2.2.2.2.2 hw hb
      refine mreach_some hp4 hn h95 hb hx hw e ⟨fun h => absurd h z1, fun _ => flo87 hp.1 (fun h2 => ?_) (fun h2 => ?_)⟩
      · rw [if_pos h2] at h; rw [Option.some.inj h]; exact hq
      · rw [if_neg h2] at h
        exact mreach_some hp4 hn h95 hb1 hx hw h ⟨fun h => absurd h z1, fun _ => hq⟩
  · rw [if_neg hj] at h
    have h : (if o i = 0 ∨ o i = 17 then some S else rchS n S (i + 1) (nx o g i (S i))) = some S' := h
    refine flo87 hp.1 (fun h2 => ?_) (fun h2 => ?_)
    · rw [if_pos h2] at h; rw [Option.some.inj h]; exact hq
    · rw [if_neg h2] at h
      exact mreach_some hp4 hn h95 hb hx hw h ⟨fun h => absurd h z1, fun _ => hq⟩
theorem flows_none {μ : Mu} {p n i : Nat} {o g S : Nat → Nat} (hp : PlR μ p o g i) (hp4 : p < 4) (hn : n ≤ 24) (h95 : μ.2.1 95 p = nI n) (hi : i < n) (h0 : S i ≠ 0) (hb : ∀ j, S j < 128) (h : floS n o g S i = none) :
    ∃ S', ∀ Q : Int32 → Mu → Prop, Q 0 (rM μ p S') → wp_Mod_flows (nI p) (nI i) (rM μ p S) Q := by
  have hw : nx o g i (S i) < 128 := af_lt
  by_cases hx : nx o g i (S i) = 0
  · exact ⟨S, fun Q hq => flows_go hp hp4 hn hi hb (fun h => absurd h h0) (fun _ _ => hq) (fun _ h => absurd hx h) (fun _ h => absurd hx h)⟩
  rw [flo_cases hx] at h
  by_cases hj : o i = 17 ∨ o i = 18
  · rw [if_pos hj] at h
    have hga := (hp.arg hj).2
    cases e : rchS n S (g i) (nx o g i (S i)) with
    | none => exact ⟨S, fun Q hq => flows_go hp hp4 hn hi hb (fun h => absurd h h0) (fun _ h => absurd h hx) (fun _ _ _ => mreach_none hp4 hn h95 hb (by omega) hw e ⟨fun _ => ⟨fun _ => hq, fun h => absurd rfl h⟩, fun h => absurd rfl h⟩) (fun _ _ h => absurd hj h)⟩
    | some S1 =>
      rw [e] at h
      have h : (if o i = 0 ∨ o i = 17 then some S1 else rchS n S1 (i + 1) (nx o g i (S i))) = none := h
      have hb1 := (rch_some e hx).2.2.2.2.2 hw hb
      by_cases h2 : o i = 0 ∨ o i = 17
      · rw [if_pos h2] at h; exact absurd h (by simp)
      · rw [if_neg h2] at h
        exact ⟨S1, fun Q hq => flows_go hp hp4 hn hi hb (fun h => absurd h h0) (fun _ h => absurd h hx) (fun _ _ _ => mreach_some hp4 hn h95 hb hx hw e ⟨fun h => absurd h z1, fun _ => flo87 hp.1 (fun h => absurd h h2) (fun _ => mreach_none hp4 hn h95 hb1 (by omega) hw h ⟨fun _ => hq, fun h => absurd rfl h⟩)⟩) (fun _ _ h => absurd hj h)⟩
  · rw [if_neg hj] at h
    have h : (if o i = 0 ∨ o i = 17 then some S else rchS n S (i + 1) (nx o g i (S i))) = none := h
    by_cases h2 : o i = 0 ∨ o i = 17
    · rw [if_pos h2] at h; exact absurd h (by simp)
    · rw [if_neg h2] at h
      exact ⟨S, fun Q hq => flows_go hp hp4 hn hi hb (fun h => absurd h h0) (fun _ h => absurd h hx) (fun _ _ h => absurd h hj) (fun _ _ _ => flo87 hp.1 (fun h => absurd h h2) (fun _ => mreach_none hp4 hn h95 hb (by omega) hw h ⟨fun _ => hq, fun h => absurd rfl h⟩))⟩
-- a round
theorem inner_zero {M : Mu} {p n : Nat} {w3 : Int32} {K : Int32 → Int32 → Mu → Prop} {Q : Int32 → Mu → Prop} (hp4 : p < 4) (hn : n ≤ 24) (h95 : M.2.1 95 p = nI n) (hK : ∀ v, K 0 v M) : ∀ f i, i + f = n → wp_Mod_seal_76 (nI p) w3 K Q (f + 1) 0 (nI i) M
  | 0, i, h => by
    refine ⟨in4 hp4, ?_⟩
    rw [cl4 hp4, h95]
    exact ⟨fun _ => hK _, fun h2 => absurd (nI_le (by omega) (by omega)) h2⟩
  | f + 1, i, h => by
    refine ⟨in4 hp4, ?_⟩
    rw [cl4 hp4, h95]
    refine ⟨fun h2 => absurd h2 (nI_ge (by omega) (by omega)), fun _ => ⟨fun _ => ?_, fun h => absurd rfl h⟩⟩
    rw [nI_1]
    exact inner_zero hp4 hn h95 hK f (i + 1) (by omega)
/-- what holds of the shapes as long as nothing has failed -/
def GI (n : Nat) (o g S : Nat → Nat) : Prop := S 0 = 1 ∧ (∀ j, S j < 128) ∧ ∀ T, Sol n o g T → Le n S T
theorem inner {μ : Mu} {p n : Nat} {o g : Nat → Nat} (hp : ∀ i, i < n → PlR μ p o g i) (hp4 : p < 4) (hn : n ≤ 24) (h95 : μ.2.1 95 p = nI n) (S0 : Nat → Nat) : ∀ (f i : Nat) (S : Nat → Nat), i + f = n → GI n o g S → ((S = S0 ∧ ∀ j, j < i → S0 j ≠ 0 → Cl n o g S0 j) ∨ cnS n S0 < cnS n S) →
    ∃ x S', ((x = 1 ∧ GI n o g S' ∧ ((S' = S0 ∧ ∀ j, j < n → S0 j ≠ 0 → Cl n o g S0 j) ∨ cnS n S0 < cnS n S')) ∨ (x = 0 ∧ ∀ T, ¬ Sol n o g T)) ∧
      ∀ (w3 : Int32) (K : Int32 → Int32 → Mu → Prop) (Q : Int32 → Mu → Prop), (∀ v, K (nI x) v (rM μ p S')) → wp_Mod_seal_76 (nI p) w3 K Q (f + 1) 1 (nI i) (rM μ p S)
  | 0, i, S, hf, hG, hc => by
    have e : i = n := by omega
    subst e
    refine ⟨1, S, Or.inl ⟨rfl, hG, hc⟩, fun w3 K Q hK => ⟨in4 hp4, ?_⟩⟩
    rw [cl4 hp4, rM_o (by decide), h95]
    exact ⟨fun _ => hK _, fun h2 => absurd (nI_le (Nat.le_refl i) (by omega)) h2⟩
  | f + 1, i, S, hf, hG, hc => by
    have hin : i < n := by omega
    have hstep : ∀ (w3 : Int32) (K : Int32 → Int32 → Mu → Prop) (Q : Int32 → Mu → Prop), wp_Mod_flows (nI p) (nI i) (rM μ p S) (fun x13 μ12 => (((x13 = 0) → wp_Mod_seal_76 (nI p) w3 K Q (f + 1) (0 : Int32) (nI (i + 1)) μ12) ∧ ((¬ x13 = 0) → wp_Mod_seal_76 (nI p) w3 K Q (f + 1) (1 : Int32) (nI (i + 1)) μ12))) → wp_Mod_seal_76 (nI p) w3 K Q (f + 1 + 1) 1 (nI i) (rM μ p S) := fun w3 K Q h => by
      refine ⟨in4 hp4, ?_⟩
      rw [cl4 hp4, rM_o (by decide), h95]
      refine ⟨fun h2 => absurd h2 (nI_ge hin (by omega)), fun _ => ⟨fun h => absurd h z1, fun _ => ?_⟩⟩
      rw [nI_1]
      exact h
    by_cases h0 : S i = 0
    · have hc' : (S = S0 ∧ ∀ j, j < i + 1 → S0 j ≠ 0 → Cl n o g S0 j) ∨ cnS n S0 < cnS n S := by
        rcases hc with ⟨e, hc⟩ | hc
        · refine Or.inl ⟨e, fun j hj hj0 => hc j ?_ hj0⟩
          by_cases hji : j = i
          · rw [hji, ← e] at hj0; exact absurd h0 hj0
          · omega
        · exact Or.inr hc
      obtain ⟨x, S', hx, hK⟩ := inner hp hp4 hn h95 S0 f (i + 1) S (by omega) hG hc'
      exact ⟨x, S', hx, fun w3 K Q hk => hstep w3 K Q (flows_go (hp i hin) hp4 hn hin hG.2.1 (fun _ => ⟨fun h => absurd h z1, fun _ => hK w3 K Q hk⟩) (fun h => absurd h0 h) (fun h => absurd h0 h) (fun h => absurd h0 h))⟩
    · cases hfl : floS n o g S i with
      | none =>
        obtain ⟨S', hw⟩ := flows_none (hp i hin) hp4 hn h95 hin h0 hG.2.1 hfl
        exact ⟨0, S', Or.inr ⟨rfl, fun T hT => flo_none hfl hin h0 hT (hG.2.2 T hT)⟩, fun w3 K Q hk => hstep w3 K Q (hw _ ⟨fun _ => inner_zero hp4 hn ((rM_o (by decide)).trans h95) hk f (i + 1) (by omega), fun h => absurd rfl h⟩)⟩
      | some S' =>
        obtain ⟨c1, c2, c3, c4, c5⟩ := flo_some hfl hin h0
        have hc' : (S' = S0 ∧ ∀ j, j < i + 1 → S0 j ≠ 0 → Cl n o g S0 j) ∨ cnS n S0 < cnS n S' := by
          rcases hc with ⟨e, hc⟩ | hc
          · rcases c3 with c3 | c3
            · refine Or.inl ⟨c3.trans e, fun j hj hj0 => ?_⟩
              by_cases hji : j = i
              · rw [hji, ← c3.trans e]; exact c1
              · exact hc j (by omega) hj0
            · rw [e] at c3; exact Or.inr c3
          · rcases c3 with c3 | c3
            · rw [c3]; exact Or.inr hc
            · exact Or.inr (Nat.lt_trans hc c3)
        obtain ⟨x, S2, hx, hK⟩ := inner hp hp4 hn h95 S0 f (i + 1) S' (by omega) ⟨(c2 0 (by rw [hG.1]; decide)).trans hG.1, c5 hG.2.1, fun T hT => c4 T hT (hG.2.2 T hT)⟩ hc'
        exact ⟨x, S2, hx, fun w3 K Q hk => hstep w3 K Q (flows_some (hp i hin) hp4 hn h95 hin h0 hG.2.1 hfl ⟨fun h => absurd h z1, fun _ => hK w3 K Q hk⟩)⟩
theorem cn_mono {S S' : Nat → Nat} : ∀ n, Le n S S' → cnS n S ≤ cnS n S'
  | 0, _ => Nat.le_refl 0
  | n + 1, h => by
    have ih := cn_mono n (fun i hi h0 => h i (by omega) h0)
    unfold cnS
    by_cases h0 : S n = 0
    · rw [if_pos h0]; omega
    · have := h n (by omega) h0
      rw [if_neg h0, this, if_neg h0]; omega
theorem outer_zero {M : Mu} {p n : Nat} {K : Int32 → Int32 → Mu → Prop} {Q : Int32 → Mu → Prop} (hp4 : p < 4) (hn : n ≤ 24) (h95 : M.2.1 95 p = nI n) (hK : ∀ v, K 0 v M) : ∀ f r, r + f = 25 → wp_Mod_seal_67 (nI p) K Q (f + 1) 0 (nI r) M
  | 0, r, h => ⟨fun _ => hK _, fun h2 => absurd (nI_le (a := 25) (by omega) (by omega)) h2⟩
  | f + 1, r, h => by
    refine ⟨fun h2 => absurd h2 (nI_ge (b := 25) (by omega) (by decide)), fun _ => ⟨n + 1, inner_zero hp4 hn h95 (fun v => ?_) n 0 (by omega)⟩⟩
    rw [nI_1]
    exact outer_zero hp4 hn h95 hK f (r + 1) (by omega)
theorem outer {μ : Mu} {p n : Nat} {o g : Nat → Nat} (hp : ∀ i, i < n → PlR μ p o g i) (hp4 : p < 4) (hn : n ≤ 24) (hn0 : 0 < n) (h95 : μ.2.1 95 p = nI n) : ∀ (f r : Nat) (S : Nat → Nat), r + f = 25 → GI n o g S → (Sol n o g S ∨ r + 1 ≤ cnS n S) →
    ∃ x S', Ans n o g x S' ∧ ∀ (K : Int32 → Int32 → Mu → Prop) (Q : Int32 → Mu → Prop), (∀ v, K (nI x) v (rM μ p S')) → wp_Mod_seal_67 (nI p) K Q (f + 1) 1 (nI r) (rM μ p S)
  | 0, r, S, hf, hG, hc => by
    have hcn := cn_le S n
    exact ⟨1, S, Or.inl ⟨rfl, hc.resolve_right (by omega), hG.2.2, hG.2.1⟩, fun K Q hK => ⟨fun _ => hK _, fun h2 => absurd (nI_le (a := 25) (by omega) (by omega)) h2⟩⟩
  | f + 1, r, S, hf, hG, hc => by
    obtain ⟨x, S', hx, hw⟩ := inner hp hp4 hn h95 S n 0 S (by omega) hG (Or.inl ⟨rfl, fun j hj => by omega⟩)
    have hstep : ∀ (K : Int32 → Int32 → Mu → Prop) (Q : Int32 → Mu → Prop), wp_Mod_seal_67 (nI p) K Q (f + 1) (nI x) (nI (r + 1)) (rM μ p S') → wp_Mod_seal_67 (nI p) K Q (f + 1 + 1) 1 (nI r) (rM μ p S) := fun K Q h =>
      ⟨fun h2 => absurd h2 (nI_ge (b := 25) (by omega) (by decide)), fun _ => ⟨n + 1, hw (nI r) _ Q (fun v => by rw [nI_1]; exact h)⟩⟩
    rcases hx with ⟨rfl, hG', hd⟩ | ⟨rfl, hno⟩
    · have hc' : Sol n o g S' ∨ r + 1 + 1 ≤ cnS n S' := by
        rcases hd with ⟨e, hall⟩ | hd
        · rw [e]; exact Or.inl ⟨hn0, hG.1, hall⟩
        · rcases hc with hc | hc
          · have := cn_mono n (hG'.2.2 S hc); omega
          · exact Or.inr (by omega)
      obtain ⟨x, S2, hA, hK⟩ := outer hp hp4 hn hn0 h95 f (r + 1) S' (by omega) hG' hc'
      exact ⟨x, S2, hA, fun K Q hk => hstep K Q (hK K Q hk)⟩
    · exact ⟨0, S', Or.inr ⟨rfl, hno⟩, fun K Q hk => hstep K Q (outer_zero hp4 hn ((rM_o (by decide)).trans h95) hk f (r + 1) (by omega))⟩
/-- a block that is cleared up to i -/
def fR (μ : Mu) (p i : Nat) : Mu := (μ.1, fun a b => if a = 94 ∧ 24 * p ≤ b ∧ b < 24 * p + i then 0 else μ.2.1 a b, μ.2.2)
theorem fR_set {μ : Mu} {p i : Nat} : setA (fR μ p i) 94 (24 * p + i) 0 = fR μ p (i + 1) := by
  unfold fR setA
  refine Prod.ext rfl (Prod.ext (funext fun a => funext fun b => ?_) rfl)
  show (if a = 94 ∧ b = 24 * p + i then 0 else if a = 94 ∧ 24 * p ≤ b ∧ b < 24 * p + i then 0 else μ.2.1 a b) = if a = 94 ∧ 24 * p ≤ b ∧ b < 24 * p + (i + 1) then 0 else μ.2.1 a b
  by_cases h1 : a = 94 ∧ b = 24 * p + i
  · rw [if_pos h1, if_pos ⟨h1.1, by omega, by omega⟩]
  · rw [if_neg h1]
    by_cases h2 : a = 94 ∧ 24 * p ≤ b ∧ b < 24 * p + i
    · rw [if_pos h2, if_pos ⟨h2.1, by omega, by omega⟩]
    · rw [if_neg h2, if_neg (by omega)]
theorem clear_loop {μ : Mu} {p : Nat} {K : Int32 → Mu → Prop} {Q : Int32 → Mu → Prop} (hp4 : p < 4) (hq : ∀ v, K v (fR μ p 24)) : ∀ f i, i + f = 24 → wp_Mod_seal_29 (nI p) K Q (f + 1) (nI i) (fR μ p i)
  | 0, i, h => by
    have e : i = 24 := by omega
    subst e
    exact ⟨fun _ => hq _, fun h => absurd (nI_le (Nat.le_refl 24) (by decide)) h⟩
  | f + 1, i, h => by
    refine ⟨fun h => absurd h (nI_ge (b := 24) (by omega) (by decide)), fun _ => ⟨ix_le (w := 24) hp4 (by omega) rfl (by omega), fun μ2 e2 => ?_⟩⟩
    rw [show ((24 : Int32) * nI p + nI i).toNatClampNeg = 24 * p + i from ix_cl (w := 24) hp4 (by omega) (by omega), fR_set] at e2
    subst e2
    rw [nI_1]
    exact clear_loop hp4 hq f (i + 1) (by omega)
theorem fR_rM {μ : Mu} {p : Nat} : fR μ p 24 = rM μ p (fun _ => 0) := rfl
theorem fR_0 {μ : Mu} {p : Nat} : fR μ p 0 = μ := by
  unfold fR
  refine Prod.ext rfl (Prod.ext (funext fun a => funext fun b => ?_) rfl)
  exact if_neg (fun h => by omega)
theorem seal_ref {μ : Mu} {p n : Nat} {o g : Nat → Nat} (hp : ∀ i, i < n → PlR μ p o g i) (hp4 : p < 4) (hn : n ≤ 24) (hn0 : 0 < n) (h95 : μ.2.1 95 p = nI n) (h96 : μ.2.1 96 p = 0) :
    ∃ x S', Ans n o g x S' ∧ ∀ Q : Int32 → Mu → Prop, Q (nI x) (setA (rM μ p S') 96 p (nI x)) → wp_Mod_seal (nI p) μ Q := by
  have hG : GI n o g (upS (fun _ => 0) 0 1) := ⟨rfl, fun j => by unfold upS; split; exact (by decide : (1 : Nat) < 128); exact (by decide : (0 : Nat) < 128), fun T hT j hj hj0 => by
    by_cases h : j = 0
    · subst h; exact hT.2.1
    · exact absurd (if_neg h) hj0⟩
  have hcn : cnS n (upS (fun _ => 0) 0 1) = 1 := by rw [cn_up rfl (by decide), cn_0, if_pos hn0]
  obtain ⟨x, S', hA, hw⟩ := outer hp hp4 hn hn0 h95 25 0 _ (by omega) hG (Or.inr (by omega))
  refine ⟨x, S', hA, fun Q hq => fou_ok hp4 ⟨fun h => absurd h z1, fun _ => ⟨in4 hp4, ?_⟩⟩⟩
  have hx : nI x = 0 ∨ nI x = 1 := by
    rcases hA with ⟨rfl, -⟩ | ⟨rfl, -⟩
    · exact Or.inr rfl
    · exact Or.inl rfl
  have hc24 : ((24 : Int32) * nI p).toNatClampNeg = 24 * p + 0 := by
    rw [show (24 : Int32) * nI p = nI (24 * p) from pk_mul 24 p, nI_clamp (by omega)]; omega
  have hin : vp_in ((24 : Int32) * nI p) 96 := by
    rw [show (24 : Int32) * nI p = nI (24 * p) from pk_mul 24 p]; exact vp_in_nI (by omega) (by decide)
  rw [cl4 hp4, h96, h95]
  refine ⟨fun h => absurd rfl h, fun _ => ⟨in4 hp4, fun _ => ⟨25, ?_⟩, fun h => absurd h (nI_ne0 hn0 (by omega))⟩⟩
  have hlast := clear_loop (μ := μ) (p := p) (K := fun v7 μ8 => (vp_in ((24 : Int32) * nI p) 96 ∧ ∀ μ10 : Mu, μ10 = setA μ8 94 (24 * p + 0) (1 : Int32) → (∃ n67, wp_Mod_seal_67 (nI p) (fun v17 v18 μ19 => (vp_in (nI p) 4 ∧ ((v17 = 0 ∨ v17 = 1) ∧ ∀ μ22 : Mu, μ22 = setA μ19 96 p v17 → ((v17 = 0 ∨ v17 = 1) ∧ Q v17 μ22)))) Q n67 (1 : Int32) (0 : Int32) μ10))) (Q := Q) hp4 (fun v => ⟨hin, fun μ10 e10 => ?_⟩) 24 0 (by omega)
  · rw [fR_0] at hlast
    rw [hc24]
    exact hlast
  · rw [fR_rM] at e10
    have e11 : μ10 = rM μ p (upS (fun _ => 0) 0 1) := e10.trans (rM_set (s := 0) (v := 1) (by omega))
    subst e11
    exact ⟨26, hw _ Q (fun v => ⟨in4 hp4, hx, fun μ22 e22 => ⟨hx, by subst e22; exact hq⟩⟩)⟩
