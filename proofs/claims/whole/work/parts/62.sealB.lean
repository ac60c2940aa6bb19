/-! Sealing: what an instruction leaves, in the class and in the reference. -/
def cnF (x : Int32) : Int32 := if x < 4 then (if x < 2 then 0 else 1) else 2
theorem cnF_ok {x : Int32} {μ : Mu} {Q : Int32 → Mu → Prop} (hq : Q (cnF x) μ) : wp_Ins_countOf x μ Q := by
  unfold cnF at hq
  refine ⟨fun h => ⟨fun h2 => ?_, fun h2 => ?_⟩, fun h => ?_⟩
  · rw [if_pos h, if_pos h2] at hq; exact hq
  · rw [if_pos h, if_neg h2] at hq; exact hq
  · rw [if_neg h] at hq; exact hq
def jnF (a b : Int32) : Int32 := ((a - 1) <<< (cnF b &&& 31)) + b
theorem jnF_ok {a b : Int32} {μ : Mu} {Q : Int32 → Mu → Prop} (hq : Q (jnF a b) μ) : wp_Ins_join a b μ Q := cnF_ok hq
def tlF (a : Int32) : Int32 := if 2 ≤ a then 3 else 2
theorem tlF_ok {x : Int32} {μ : Mu} {Q : Int32 → Mu → Prop} (hq : Q (tlF x) μ) : wp_Ins_typeOfLocal x μ Q := by
  unfold tlF at hq
  refine ⟨fun h => ?_, fun h => ?_⟩
  · rw [if_pos h] at hq; exact hq
  · rw [if_neg h] at hq; exact hq
def tkF (op : Nat) (a s : Int32) : Int32 := if op = 8 then tlF a else if op = 9 ∨ op = 10 then s else if op = 13 then (if a = 0 then 6 else 7) else sta_v 0 op
def puF (op : Nat) (a s : Int32) : Int32 := if op = 7 then tlF a else if op = 9 then (if s = 2 then 4 else 7) else if op = 12 then (if a = 0 then 2 else 3) else sta_v 1 op
theorem tkF_ok {op : Nat} {a s : Int32} {μ : Mu} {Q : Int32 → Mu → Prop} (ho : op < 25) (hq : Q (tkF op a s) μ) : wp_Ins_takes (nI op) a s μ Q := by
  have e : (nI op).toInt = op := nI_toInt (by omega)
  have hv : vp_in (nI op) 25 := vp_in_nI ho (by decide)
  have hc : (nI op).toNatClampNeg = op := nI_clamp (by omega)
  unfold wp_Ins_takes
  rw [e, hc]
  unfold tkF at hq
  refine ⟨fun h => ⟨hv, ?_⟩, fun h => ?_, fun h => ?_, fun h => ?_, fun h => ⟨hv, ?_⟩, fun h => ⟨hv, ?_⟩, fun h => ?_⟩
  · rw [if_neg (show ¬ op = 8 by omega), if_neg (show ¬ (op = 9 ∨ op = 10) by omega), if_neg (show ¬ op = 13 by omega)] at hq; exact hq
  · rw [if_pos (show op = 8 by omega)] at hq; exact tlF_ok hq
  · rw [if_neg (show ¬ op = 8 by omega), if_pos (show (op = 9 ∨ op = 10) by omega)] at hq; exact hq
  · rw [if_neg (show ¬ op = 8 by omega), if_pos (show (op = 9 ∨ op = 10) by omega)] at hq; exact hq
  · rw [if_neg (show ¬ op = 8 by omega), if_neg (show ¬ (op = 9 ∨ op = 10) by omega), if_neg (show ¬ op = 13 by omega)] at hq; exact hq
  · rw [if_neg (show ¬ op = 8 by omega), if_neg (show ¬ (op = 9 ∨ op = 10) by omega), if_neg (show ¬ op = 13 by omega)] at hq; exact hq
  · rw [if_neg (show ¬ op = 8 by omega), if_neg (show ¬ (op = 9 ∨ op = 10) by omega), if_pos (show op = 13 by omega)] at hq
    refine ⟨fun h2 => ?_, fun h2 => ?_⟩
    · rw [if_neg h2] at hq; exact hq
    · rw [if_pos h2] at hq; exact hq
theorem puF_ok {op : Nat} {a s : Int32} {μ : Mu} {Q : Int32 → Mu → Prop} (ho : op < 25) (hq : Q (puF op a s) μ) : wp_Ins_puts (nI op) a s μ Q := by
  have e : (nI op).toInt = op := nI_toInt (by omega)
  have hv : vp_in (nI op) 25 := vp_in_nI ho (by decide)
  have hc : (nI op).toNatClampNeg = op := nI_clamp (by omega)
  unfold wp_Ins_puts
  rw [e, hc]
  unfold puF at hq
  refine ⟨fun h => ?_, fun h => ?_, fun h => ?_, fun h => ⟨hv, ?_⟩⟩
  · rw [if_pos (show op = 7 by omega)] at hq; exact tlF_ok hq
  · rw [if_neg (show ¬ op = 7 by omega), if_pos (show op = 9 by omega)] at hq
    refine ⟨fun h2 => ?_, fun h2 => ?_⟩
    · rw [if_neg h2] at hq; exact hq
    · rw [if_pos h2] at hq; exact hq
  · rw [if_neg (show ¬ op = 7 by omega), if_neg (show ¬ op = 9 by omega), if_pos (show op = 12 by omega)] at hq
    refine ⟨fun h2 => ?_, fun h2 => ?_⟩
    · rw [if_neg h2] at hq; exact hq
    · rw [if_pos h2] at hq; exact hq
  · rw [if_neg (show ¬ op = 7 by omega), if_neg (show ¬ op = 9 by omega), if_neg (show ¬ op = 12 by omega)] at hq; exact hq
def shG (op : Nat) (a s s0 : Int32) : Int32 := if s >>> (cnF (tkF op a s0) &&& 31) = 0 then 0 else if jnF (s >>> (cnF (tkF op a s0) &&& 31)) (tkF op a s0) = s then (if jnF (s >>> (cnF (tkF op a s0) &&& 31)) (puF op a s0) ≤ 127 then jnF (s >>> (cnF (tkF op a s0) &&& 31)) (puF op a s0) else 0) else 0
theorem shG_ok {op : Nat} {a s s0 : Int32} {μ : Mu} {Q : Int32 → Mu → Prop} (ho : op < 25) (hq : Q (shG op a s s0) μ) : wp_Ins_shapeAfter_j12 (nI op) a s s0 μ Q := by
  unfold shG at hq
  refine tkF_ok ho (cnF_ok ⟨fun h => ?_, fun h => jnF_ok ⟨fun h2 => puF_ok ho (jnF_ok ⟨fun h3 => ?_, fun h3 => ?_⟩), fun h2 => ?_⟩⟩)
  · rw [if_pos h] at hq; exact hq
  · rw [if_neg h, if_pos h2, if_pos h3] at hq; exact hq
  · rw [if_neg h, if_pos h2, if_neg h3] at hq; exact hq
  · rw [if_neg h, if_neg h2] at hq; exact hq
def shpF (op : Nat) (a s : Int32) : Int32 := if s &&& 1 = 1 then shG op a s 3 else shG op a s 2
theorem shF_ok {op : Nat} {a s : Int32} {μ : Mu} {Q : Int32 → Mu → Prop} (ho : op < 25) (hq : Q (shpF op a s) μ) : wp_Ins_shapeAfter (nI op) a s μ Q := by
  unfold shpF at hq
  refine ⟨fun h => shG_ok ho ?_, fun h => shG_ok ho ?_⟩
  · rw [if_neg h] at hq; exact hq
  · rw [if_pos h] at hq; exact hq
/-- which of the three kinds an argument is -/
def rp (a : Nat) : Nat := if 2 ≤ a then 2 else a
theorem tlF_rp {a : Nat} (h : a < 2 ^ 31) : tlF (nI a) = tlF (nI (rp a)) := by
  unfold tlF rp
  by_cases h2 : 2 ≤ a
  · rw [if_pos h2, if_pos (show (2 : Int32) ≤ nI a from nI_le (a := 2) h2 h)]; rfl
  · rw [if_neg h2]
theorem z_rp {a : Nat} (h : a < 2 ^ 31) : (nI a = 0) = (nI (rp a) = 0) := by
  unfold rp
  by_cases h2 : 2 ≤ a
  · rw [if_pos h2]
    exact propext ⟨fun h3 => absurd h3 (nI_ne0 (by omega) h), fun h3 => absurd h3 (by decide)⟩
  · rw [if_neg h2]
theorem shF_rp {op a : Nat} {s : Int32} (h : a < 2 ^ 31) : shpF op (nI a) s = shpF op (nI (rp a)) s := by
  have h1 : ∀ s0, tkF op (nI a) s0 = tkF op (nI (rp a)) s0 := fun s0 => by
    unfold tkF; rw [tlF_rp h]; simp only [z_rp h]
  have h2 : ∀ s0, puF op (nI a) s0 = puF op (nI (rp a)) s0 := fun s0 => by
    unfold puF; rw [tlF_rp h]; simp only [z_rp h]
  have h3 : ∀ s0, shG op (nI a) s s0 = shG op (nI (rp a)) s s0 := fun s0 => by
    unfold shG; rw [h1, h2]
  unfold shpF
  rw [h3, h3]
theorem af_rp {op a s : Nat} : af op a s = af op (rp a) s := by
  have h1 : (2 ≤ a) = (2 ≤ rp a) := by unfold rp; exact propext (by split <;> omega)
  have h2 : (a = 0) = (rp a = 0) := by unfold rp; exact propext (by split <;> omega)
  have h : ty op a = ty op (rp a) := by
    funext l
    unfold ty
    simp only [h1, h2, ne_eq]
  unfold af
  rw [h]
theorem rp_lt (a : Nat) : rp a < 3 := by unfold rp; split <;> omega
theorem sh_dec7 : ∀ op, op < 25 → ∀ a, a < 3 → ∀ s, s < 128 → s ≠ 0 → shpF op (nI a) (nI s) = nI (af op a s) := by decide +kernel
/-- an instruction's argument is good -/
def gA2 (op : Nat) (arg : Int32) : Prop := op = 1 ∨ ∃ a, a ≤ hiA op ∧ arg = nI a
theorem shF_af {op s : Nat} {arg : Int32} (ho : op < 25) (hg : gA2 op arg) (hs : s < 128) (hs0 : s ≠ 0) : shpF op arg (nI s) = nI (af op arg.toNatClampNeg s) := by
  rcases hg with rfl | ⟨a, ha, rfl⟩
  · have h1 : shpF 1 arg (nI s) = shpF 1 (nI 0) (nI s) := rfl
    have h2 : af 1 arg.toNatClampNeg s = af 1 0 s := rfl
    rw [h1, h2]
    exact sh_dec7 1 ho 0 (by omega) s hs hs0
  · have := (hiA_ok op ho).2
    rw [nI_clamp (by omega), shF_rp (by omega), af_rp]
    exact sh_dec7 op ho (rp a) (rp_lt a) s hs hs0
theorem after_cls {op s : Nat} {arg : Int32} {μ : Mu} {Q : Int32 → Mu → Prop} (ho : op < 25) (hg : gA2 op arg) (hs : s < 128) (hs0 : s ≠ 0) (hq : Q (nI (af op arg.toNatClampNeg s)) μ) : wp_Ins_shapeAfter (nI op) arg (nI s) μ Q :=
  shF_ok ho (by rw [shF_af ho hg hs hs0]; exact hq)
