/-! Sealing: what an instruction leaves, in the reference. -/
def sz : Nat → Nat → Nat
  | 0, _ => 0
  | f + 1, x => if x ≤ 1 then 0 else sz f (x / 2) + 1
theorem sz_ok {μ : Mu} {Q : Int32 → Mu → Prop} : ∀ (f x c : Nat) (K : Int32 → Int32 → Mu → Prop), x < 2 ^ f → x < 2 ^ 31 → (∀ v, K (nI (c + sz f x)) v μ) → wp_Mod_size_4 K Q (f + 1) (nI c) (nI x) μ
  | 0, x, c, K, h, h2, hk => by
    have hx : x = 0 := by simpa using h
    subst hx
    exact ⟨fun _ => hk _, fun h => absurd (nI_le (a := 0) (b := 1) (by omega) (by decide)) h⟩
  | f + 1, x, c, K, h, h2, hk => by
    by_cases h1 : x ≤ 1
    · rw [show sz (f + 1) x = 0 from if_pos h1] at hk
      exact ⟨fun _ => hk _, fun h => absurd (nI_le (a := x) (b := 1) h1 (by decide)) h⟩
    · rw [show sz (f + 1) x = sz f (x / 2) + 1 from if_neg h1] at hk
      refine ⟨fun h => absurd h (nI_ge (a := 1) (b := x) (by omega) h2), fun _ => ?_⟩
      rw [nI_1, show nI x / (2 : Int32) = nI (x / 2) from pk_div (d := 2) h2 (by decide) (by decide)]
      refine sz_ok f (x / 2) (c + 1) K ?_ (by omega) (fun v => ?_)
      · rw [Nat.pow_succ] at h; omega
      · rw [show c + 1 + sz f (x / 2) = c + (sz f (x / 2) + 1) by omega]; exact hk v
theorem sz_le : ∀ f x, sz f x ≤ f
  | 0, _ => Nat.le_refl 0
  | f + 1, x => by
    have := sz_le f (x / 2)
    unfold sz
    split <;> omega
theorem size_ok {x : Nat} {μ : Mu} {Q : Int32 → Mu → Prop} (h : x < 2 ^ 12) (hq : Q (nI (sz 12 x)) μ) : wp_Mod_size (nI x) μ Q :=
  ⟨13, sz_ok 12 x 0 _ h (by omega) (fun v => by rw [Nat.zero_add]; exact hq)⟩

def tkN (op : Nat) (a : Int32) (b : Nat) : Nat := match op with
  | 8 => if (2 : Int32) ≤ a then 3 else 2
  | 9 => 2 + b
  | 10 => 2 + b
  | 13 => if a = 0 then 6 else 7
  | k => [1, 1, 4, 4, 4, 4, 4, 1, 1, 1, 1, 2, 3, 1, 7, 1, 1, 1, 2, 2, 1, 3, 1, 2, 1].getD k 1
def puN (op : Nat) (a : Int32) (b : Nat) : Nat := match op with
  | 7 => if (2 : Int32) ≤ a then 3 else 2
  | 9 => if b = 0 then 4 else 7
  | 12 => if a = 0 then 2 else 3
  | k => [1, 2, 2, 2, 2, 2, 2, 1, 1, 1, 1, 3, 1, 1, 2, 3, 3, 1, 1, 1, 2, 2, 3, 2, 2].getD k 1
theorem tkN_j {op b : Nat} {a : Int32} {μ : Mu} {Q : Int32 → Mu → Prop} (ho : op < 25) (hn : ¬ (2 ≤ op ∧ op ≤ 6)) (hb : b < 2) (hq : Q (nI (tkN op a b)) μ) : wp_Mod_takes_j13 (nI op) a (nI b) μ Q := by
  have e : (nI op).toInt = op := nI_toInt (by omega)
  unfold wp_Mod_takes_j13
  rw [e]
  refine ⟨fun h => ?_, fun h => ?_, fun h => ?_, fun h => ?_, fun h => ?_, fun h => ?_, fun h => ?_, fun h => ?_, fun h => ?_, fun h => ?_, fun h => ?_, fun h => ?_, fun h => ?_, fun h => ?_, fun h => ?_, fun h => ?_, fun h => ?_⟩
  · have h2 : op = 0 ∨ op = 1 ∨ op = 7 ∨ op = 24 := by omega
    rcases h2 with rfl | rfl | rfl | rfl <;> exact hq
  · have h2 : op = 8 := by omega
    subst h2
    refine ⟨fun h3 => ?_, fun h3 => ?_⟩
    · rw [show tkN 8 a b = 3 from if_pos h3] at hq; exact hq
    · rw [show tkN 8 a b = 2 from if_neg h3] at hq; exact hq
  · have h2 : op = 9 := by omega
    subst h2
    rw [show (2 : Int32) + nI b = nI (2 + b) from nI_add 2 b]; exact hq
  · have h2 : op = 10 := by omega
    subst h2
    rw [show (2 : Int32) + nI b = nI (2 + b) from nI_add 2 b]; exact hq
  · have h2 : op = 11 := by omega
    subst h2
    exact hq
  · have h2 : op = 12 := by omega
    subst h2
    exact hq
  · have h2 : op = 13 := by omega
    subst h2
    refine ⟨fun h3 => ?_, fun h3 => ?_⟩
    · rw [show tkN 13 a b = 7 from if_neg h3] at hq; exact hq
    · rw [show tkN 13 a b = 6 from if_pos h3] at hq; exact hq
  · have h2 : op = 14 := by omega
    subst h2
    exact hq
  · have h2 : op = 15 := by omega
    subst h2
    exact hq
  · have h2 : op = 16 := by omega
    subst h2
    exact hq
  · have h2 : op = 17 := by omega
    subst h2
    exact hq
  · have h2 : op = 18 := by omega
    subst h2
    exact hq
  · have h2 : op = 19 := by omega
    subst h2
    exact hq
  · have h2 : op = 20 := by omega
    subst h2
    exact hq
  · have h2 : op = 21 := by omega
    subst h2
    exact hq
  · have h2 : op = 22 := by omega
    subst h2
    exact hq
  · have h2 : op = 23 := by omega
    subst h2
    exact hq
theorem tkN_ok {op b : Nat} {a : Int32} {μ : Mu} {Q : Int32 → Mu → Prop} (ho : op < 25) (hb : b < 2) (hq : Q (nI (tkN op a b)) μ) : wp_Mod_takes (nI op) a (nI b) μ Q := by
  refine pk_lt (y := 2) op 2 (fun h => tkN_j ho (by omega) hb hq) (fun h => pk_lt (x := 6) 6 op (fun h2 => tkN_j ho (by omega) hb hq) (fun h2 => ?_))
  have h2 : op = 2 ∨ op = 3 ∨ op = 4 ∨ op = 5 ∨ op = 6 := by omega
  rcases h2 with rfl | rfl | rfl | rfl | rfl <;> exact hq
theorem puN_j {op b : Nat} {a : Int32} {μ : Mu} {Q : Int32 → Mu → Prop} (ho : op < 25) (hn : ¬ (2 ≤ op ∧ op ≤ 6)) (hb : b < 2) (hq : Q (nI (puN op a b)) μ) : wp_Mod_puts_j13 (nI op) a (nI b) μ Q := by
  have e : (nI op).toInt = op := nI_toInt (by omega)
  unfold wp_Mod_puts_j13
  rw [e]
  refine ⟨fun h => ?_, fun h => ?_, fun h => ?_, fun h => ?_, fun h => ?_, fun h => ?_, fun h => ?_, fun h => ?_, fun h => ?_, fun h => ?_, fun h => ?_, fun h => ?_, fun h => ?_, fun h => ?_, fun h => ?_, fun h => ?_, fun h => ?_, fun h => ?_, fun h => ?_, fun h => ?_, fun h => ?_, fun h => ?_, fun h => ?_, fun h => ?_, fun h => ?_⟩
  · have h2 : op = 0 := by omega
    subst h2
    exact hq
  · have h2 : op = 1 := by omega
    subst h2
    exact hq
  · exact absurd (show 2 ≤ op ∧ op ≤ 6 by omega) hn
  · exact absurd (show 2 ≤ op ∧ op ≤ 6 by omega) hn
  · exact absurd (show 2 ≤ op ∧ op ≤ 6 by omega) hn
  · exact absurd (show 2 ≤ op ∧ op ≤ 6 by omega) hn
  · exact absurd (show 2 ≤ op ∧ op ≤ 6 by omega) hn
  · have h2 : op = 7 := by omega
    subst h2
    refine ⟨fun h3 => ?_, fun h3 => ?_⟩
    · rw [show puN 7 a b = 3 from if_pos h3] at hq; exact hq
    · rw [show puN 7 a b = 2 from if_neg h3] at hq; exact hq
  · have h2 : op = 8 := by omega
    subst h2
    exact hq
  · have h2 : op = 9 := by omega
    subst h2
    refine ⟨fun h3 => ?_, fun h3 => ?_⟩
    · rw [show puN 9 a b = 7 from if_neg (fun e => h3 (by rw [e]; rfl))] at hq; exact hq
    · rw [show puN 9 a b = 4 from if_pos ((nI_eq (b := 0) (by omega) (by decide)).mp h3)] at hq; exact hq
  · have h2 : op = 10 := by omega
    subst h2
    exact hq
  · have h2 : op = 11 := by omega
    subst h2
    exact hq
  · have h2 : op = 12 := by omega
    subst h2
    refine ⟨fun h3 => ?_, fun h3 => ?_⟩
    · rw [show puN 12 a b = 3 from if_neg h3] at hq; exact hq
    · rw [show puN 12 a b = 2 from if_pos h3] at hq; exact hq
  · have h2 : op = 13 := by omega
    subst h2
    exact hq
  · have h2 : op = 14 := by omega
    subst h2
    exact hq
  · have h2 : op = 15 := by omega
    subst h2
    exact hq
  · have h2 : op = 16 := by omega
    subst h2
    exact hq
  · have h2 : op = 17 := by omega
    subst h2
    exact hq
  · have h2 : op = 18 := by omega
    subst h2
    exact hq
  · have h2 : op = 19 := by omega
    subst h2
    exact hq
  · have h2 : op = 20 := by omega
    subst h2
    exact hq
  · have h2 : op = 21 := by omega
    subst h2
    exact hq
  · have h2 : op = 22 := by omega
    subst h2
    exact hq
  · have h2 : op = 23 := by omega
    subst h2
    exact hq
  · have h2 : op = 24 := by omega
    subst h2
    exact hq
theorem puN_ok {op b : Nat} {a : Int32} {μ : Mu} {Q : Int32 → Mu → Prop} (ho : op < 25) (hb : b < 2) (hq : Q (nI (puN op a b)) μ) : wp_Mod_puts (nI op) a (nI b) μ Q := by
  refine pk_lt (y := 2) op 2 (fun h => puN_j ho (by omega) hb hq) (fun h => pk_lt (x := 6) 6 op (fun h2 => puN_j ho (by omega) hb hq) (fun h2 => ?_))
  have h2 : op = 2 ∨ op = 3 ∨ op = 4 ∨ op = 5 ∨ op = 6 := by omega
  rcases h2 with rfl | rfl | rfl | rfl | rfl <;> exact hq
theorem tkN_7 {op b : Nat} {a : Int32} (ho : op < 25) (hb : b < 2) : tkN op a b ≤ 7 := by
  unfold tkN
  split
  · split <;> omega
  · omega
  · omega
  · split <;> omega
  · exact (by decide : ∀ k, k < 25 → [1, 1, 4, 4, 4, 4, 4, 1, 1, 1, 1, 2, 3, 1, 7, 1, 1, 1, 2, 2, 1, 3, 1, 2, 1].getD k 1 ≤ 7) op ho
theorem puN_7 {op b : Nat} {a : Int32} (ho : op < 25) : puN op a b ≤ 7 := by
  unfold puN
  split
  · split <;> omega
  · split <;> omega
  · split <;> omega
  · exact (by decide : ∀ k, k < 25 → [1, 2, 2, 2, 2, 2, 2, 1, 1, 1, 1, 3, 1, 1, 2, 3, 3, 1, 1, 1, 2, 2, 3, 2, 2].getD k 1 ≤ 7) op ho
theorem sz7 : ∀ x, x ≤ 7 → sz 12 x ≤ 2 ∧ ((1 : Int32) <<< (nI (sz 12 x) &&& 31)) = nI (2 ^ sz 12 x) := by decide +kernel
def lvN (op : Nat) (a : Int32) (s : Nat) : Nat :=
  if s / 2 ^ sz 12 (tkN op a (s % 2)) = 0 then 0 else
  if s % 2 ^ sz 12 (tkN op a (s % 2)) = tkN op a (s % 2) % 2 ^ sz 12 (tkN op a (s % 2)) then
    (if sz 12 (s / 2 ^ sz 12 (tkN op a (s % 2)) * 2 ^ sz 12 (puN op a (s % 2)) + puN op a (s % 2) % 2 ^ sz 12 (puN op a (s % 2))) ≤ 6 then s / 2 ^ sz 12 (tkN op a (s % 2)) * 2 ^ sz 12 (puN op a (s % 2)) + puN op a (s % 2) % 2 ^ sz 12 (puN op a (s % 2)) else 0) else 0
theorem lvN_ok {op s : Nat} {a : Int32} {μ : Mu} {Q : Int32 → Mu → Prop} (ho : op < 25) (hs : s < 128) (hq : Q (nI (lvN op a s)) μ) : wp_Mod_leaves (nI op) a (nI s) μ Q := by
  have hb : s % 2 < 2 := Nat.mod_lt _ (by decide)
  unfold lvN at hq
  unfold wp_Mod_leaves
  rw [show nI s &&& (1 : Int32) = nI (s % 2) from pk_andN (by omega) 1 (by decide)]
  have hT := tkN_7 (a := a) ho hb
  have hP := puN_7 (a := a) (b := s % 2) ho
  refine tkN_ok ho hb (puN_ok ho hb ?_)
  generalize tkN op a (s % 2) = T at *
  generalize puN op a (s % 2) = P at *
  obtain ⟨t1, t2⟩ := sz7 T hT
  obtain ⟨p1, p2⟩ := sz7 P hP
  refine size_ok (by omega) ?_
  rw [t2]
  generalize sz 12 T = t at *
  have ht0 : 0 < 2 ^ t := Nat.two_pow_pos t
  have ht4 : 2 ^ t ≤ 4 := Nat.pow_le_pow_right (n := 2) (by decide) (show t ≤ 2 from t1)
  rw [pk_rem (a := s) (by omega) ht0 (by omega), pk_rem (a := T) (by omega) ht0 (by omega), pk_div (a := s) (by omega) ht0 (by omega)]
  have hne : ¬ nI (2 ^ t) = 0 := nI_ne0 ht0 (by omega)
  have hd : s / 2 ^ t < 128 := Nat.lt_of_le_of_lt (Nat.div_le_self _ _) hs
  refine ⟨hne, pk_eq (y := 0) (s / 2 ^ t) 0 (fun h => ?_) (fun h => ⟨hne, hne, ?_⟩)⟩
  · rw [if_pos h] at hq; exact hq
  rw [if_neg h] at hq
  have hm1 : s % 2 ^ t < 2 ^ t := Nat.mod_lt _ ht0
  have hm2 : T % 2 ^ t < 2 ^ t := Nat.mod_lt _ ht0
  refine pk_eq (s % 2 ^ t) (T % 2 ^ t) (fun h2 => ?_) (fun h2 => ?_)
  · rw [if_pos h2] at hq
    refine size_ok (by omega) ?_
    rw [p2]
    generalize sz 12 P = q at *
    have hp0 : 0 < 2 ^ q := Nat.two_pow_pos q
    have hp4 : 2 ^ q ≤ 4 := Nat.pow_le_pow_right (n := 2) (by decide) (show q ≤ 2 from p1)
    rw [pk_rem (by omega) hp0 (by omega), pk_mul, nI_add]
    have hm3 : P % 2 ^ q < 2 ^ q := Nat.mod_lt _ hp0
    have hm4 : s / 2 ^ t * 2 ^ q ≤ 127 * 4 := Nat.mul_le_mul (by omega) hp4
    refine ⟨hne, nI_ne0 hp0 (by omega), ?_⟩
    have hw9 : s / 2 ^ t * 2 ^ q + P % 2 ^ q < 4096 := by omega
    generalize s / 2 ^ t * 2 ^ q + P % 2 ^ q = w at *
    clear hm4
    refine size_ok (by omega) ?_
    have hw : sz 12 w ≤ 12 := sz_le 12 w
    refine pk_le (y := 6) (sz 12 w) 6 (fun h3 => ?_) (fun h3 => ?_)
    · rw [if_pos h3] at hq; exact hq
    · rw [if_neg (by omega)] at hq; exact hq
  · rw [if_neg h2] at hq; exact hq
theorem lvN_rp {op a s : Nat} (h : a < 2 ^ 31) : lvN op (nI a) s = lvN op (nI (rp a)) s := by
  have h0 : ((2 : Int32) ≤ nI a) = ((2 : Int32) ≤ nI (rp a)) := by
    unfold rp
    by_cases h2 : 2 ≤ a
    · rw [if_pos h2]
      exact propext ⟨fun _ => by decide, fun _ => nI_le (a := 2) h2 h⟩
    · rw [if_neg h2]
  have h1 : ∀ b, tkN op (nI a) b = tkN op (nI (rp a)) b := fun b => by
    unfold tkN; simp only [h0, z_rp h]
  have h2 : ∀ b, puN op (nI a) b = puN op (nI (rp a)) b := fun b => by
    unfold puN; simp only [h0, z_rp h]
  unfold lvN
  rw [h1, h2]
theorem lv_dec7 : ∀ op, op < 25 → ∀ a, a < 3 → ∀ s, s < 128 → s ≠ 0 → lvN op (nI a) s = af op a s := by decide +kernel
theorem lvN_af {op s : Nat} {arg : Int32} (ho : op < 25) (hg : gA2 op arg) (hs : s < 128) (hs0 : s ≠ 0) : lvN op arg s = af op arg.toNatClampNeg s := by
  rcases hg with rfl | ⟨a, ha, rfl⟩
  · have h1 : lvN 1 arg s = lvN 1 (nI 0) s := rfl
    have h2 : af 1 arg.toNatClampNeg s = af 1 0 s := rfl
    rw [h1, h2]
    exact lv_dec7 1 ho 0 (by omega) s hs hs0
  · have := (hiA_ok op ho).2
    rw [nI_clamp (by omega), lvN_rp (by omega), af_rp]
    exact lv_dec7 op ho (rp a) (rp_lt a) s hs hs0
theorem after_ref {op s : Nat} {arg : Int32} {μ : Mu} {Q : Int32 → Mu → Prop} (ho : op < 25) (hg : gA2 op arg) (hs : s < 128) (hs0 : s ≠ 0) (hq : Q (nI (af op arg.toNatClampNeg s)) μ) : wp_Mod_leaves (nI op) arg (nI s) μ Q :=
  lvN_ok ho hs (by rw [lvN_af ho hg hs hs0]; exact hq)
