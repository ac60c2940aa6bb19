/-! The pure part. Views: what a tenant, a program, the host are in the class's cells and in the reference's. -/
abbrev TB : Type := (Nat → Nat → Int32) × (Nat → Nat → Int32) × Int64
abbrev PB : Type := (Nat → Int32) × (Nat → Nat → Int32)
def cT (μ : Mu) (t : Nat) : TB := (fun k j => if k < 17 then μ.1 (23 + k + 17 * t) j else 0, fun k i => if k < 17 then μ.2.1 (23 + k + 17 * t) i else 0, μ.2.2 (24 + 17 * t))
def cP (μ : Mu) (p : Nat) : PB := (fun j => μ.1 (3 + 5 * p) j, fun k i => if k < 4 then μ.2.1 (4 + k + 5 * p) i else 0)
def cG (μ : Mu) : Nat → Int32 := μ.1 0
def wd (k : Nat) : Nat := if k = 113 then 6 else if k = 114 ∨ k = 115 ∨ k = 121 then 4 else if k = 117 then 8 else if k = 119 then 16 else if k = 92 ∨ k = 93 ∨ k = 94 ∨ k = 97 ∨ k = 98 ∨ k = 99 ∨ k = 100 then 24 else 0
def isS (k : Nat) : Bool := k == 95 || k == 96 || (104 ≤ k && k ≤ 112) || k == 116 || k == 118 || k == 120
def rV (μ : Mu) (t : Nat) : PB := (fun k => if isS k then μ.2.1 k t else 0, fun k i => if i < wd k then μ.2.1 k (wd k * t + i) else 0)
def rG (μ : Mu) : Nat → Int32 := μ.1 91
def rS (μ : Mu) : Nat → Nat → Int32 := fun a k => if k < 8 then μ.2.1 a (96 + k) else 0
def bF (B : TB) (k j : Nat) (v : Int32) : TB := (fun a b => if a = k ∧ b = j then v else B.1 a b, B.2.1, B.2.2)
def bA (B : TB) (k i : Nat) (v : Int32) : TB := (B.1, fun a b => if a = k ∧ b = i then v else B.2.1 a b, B.2.2)
def bG (B : TB) (k : Nat) (f : Nat → Int32) : TB := (B.1, fun a => if a = k then f else B.2.1 a, B.2.2)
def bJ (B : TB) (v : Int64) : TB := (B.1, B.2.1, v)
def pF (B : PB) (j : Nat) (v : Int32) : PB := (fun b => if b = j then v else B.1 b, B.2)
def pA (B : PB) (k i : Nat) (v : Int32) : PB := (B.1, fun a b => if a = k ∧ b = i then v else B.2 a b)
-- a change of a tenant's cell
theorem cT_F {μ : Mu} {t k j : Nat} {v : Int32} (h1 : 23 ≤ k) (h2 : k < 40) : cT (setF μ (k + 17 * t) j v) t = bF (cT μ t) (k - 23) j v := by
  unfold cT bF setF
  refine Prod.ext (funext fun a => funext fun b => ?_) (Prod.ext rfl rfl)
  show (if a < 17 then (if 23 + a + 17 * t = k + 17 * t ∧ b = j then v else μ.1 (23 + a + 17 * t) b) else 0) = if a = k - 23 ∧ b = j then v else if a < 17 then μ.1 (23 + a + 17 * t) b else 0
  by_cases ha : a < 17
  · rw [if_pos ha, if_pos ha]
    by_cases hk : a = k - 23 ∧ b = j
    · rw [if_pos hk, if_pos ⟨by omega, hk.2⟩]
    · rw [if_neg hk, if_neg fun h => hk ⟨by omega, h.2⟩]
  · rw [if_neg ha, if_neg (fun h => by omega), if_neg ha]
theorem cT_Fn {μ : Mu} {t t' k j : Nat} {v : Int32} (hn : t' ≠ t) (h1 : 23 ≤ k) (h2 : k < 40) : cT (setF μ (k + 17 * t) j v) t' = cT μ t' := by
  unfold cT setF
  refine Prod.ext (funext fun a => funext fun b => ?_) (Prod.ext rfl rfl)
  show (if a < 17 then (if 23 + a + 17 * t' = k + 17 * t ∧ b = j then v else μ.1 (23 + a + 17 * t') b) else 0) = if a < 17 then μ.1 (23 + a + 17 * t') b else 0
  by_cases ha : a < 17
  · rw [if_pos ha, if_pos ha, if_neg fun h => by omega]
  · rw [if_neg ha, if_neg ha]
theorem cT_A {μ : Mu} {t k j : Nat} {v : Int32} (h1 : 23 ≤ k) (h2 : k < 40) : cT (setA μ (k + 17 * t) j v) t = bA (cT μ t) (k - 23) j v := by
  unfold cT bA setA
  refine Prod.ext rfl (Prod.ext (funext fun a => funext fun b => ?_) rfl)
  show (if a < 17 then (if 23 + a + 17 * t = k + 17 * t ∧ b = j then v else μ.2.1 (23 + a + 17 * t) b) else 0) = if a = k - 23 ∧ b = j then v else if a < 17 then μ.2.1 (23 + a + 17 * t) b else 0
  by_cases ha : a < 17
  · rw [if_pos ha, if_pos ha]
    by_cases hk : a = k - 23 ∧ b = j
    · rw [if_pos hk, if_pos ⟨by omega, hk.2⟩]
    · rw [if_neg hk, if_neg fun h => hk ⟨by omega, h.2⟩]
  · rw [if_neg ha, if_neg (fun h => by omega), if_neg ha]
theorem cT_An {μ : Mu} {t t' k j : Nat} {v : Int32} (hn : t' ≠ t) (h1 : 23 ≤ k) (h2 : k < 40) : cT (setA μ (k + 17 * t) j v) t' = cT μ t' := by
  unfold cT setA
  refine Prod.ext rfl (Prod.ext (funext fun a => funext fun b => ?_) rfl)
  show (if a < 17 then (if 23 + a + 17 * t' = k + 17 * t ∧ b = j then v else μ.2.1 (23 + a + 17 * t') b) else 0) = if a < 17 then μ.2.1 (23 + a + 17 * t') b else 0
  by_cases ha : a < 17
  · rw [if_pos ha, if_pos ha, if_neg fun h => by omega]
  · rw [if_neg ha, if_neg ha]
theorem cT_G {μ : Mu} {t k : Nat} {f : Nat → Int32} (h1 : 23 ≤ k) (h2 : k < 40) : cT (setG μ (k + 17 * t) f) t = bG (cT μ t) (k - 23) f := by
  unfold cT bG setG
  refine Prod.ext rfl (Prod.ext (funext fun a => funext fun b => ?_) rfl)
  show (if a < 17 then ((if 23 + a + 17 * t = k + 17 * t then f else μ.2.1 (23 + a + 17 * t)) b) else 0) = (if a = k - 23 then f else fun i => if a < 17 then μ.2.1 (23 + a + 17 * t) i else 0) b
  by_cases ha : a < 17
  · rw [if_pos ha]
    by_cases hk : a = k - 23
    · rw [if_pos hk, if_pos (by omega)]
    · rw [if_neg hk, if_neg (by omega), if_pos ha]
  · rw [if_neg ha, if_neg (by omega), if_neg ha]
theorem cT_Gn {μ : Mu} {t t' k : Nat} {f : Nat → Int32} (hn : t' ≠ t) (h1 : 23 ≤ k) (h2 : k < 40) : cT (setG μ (k + 17 * t) f) t' = cT μ t' := by
  unfold cT setG
  refine Prod.ext rfl (Prod.ext (funext fun a => funext fun b => ?_) rfl)
  show (if a < 17 then ((if 23 + a + 17 * t' = k + 17 * t then f else μ.2.1 (23 + a + 17 * t')) b) else 0) = if a < 17 then μ.2.1 (23 + a + 17 * t') b else 0
  by_cases ha : a < 17
  · rw [if_pos ha, if_pos ha, if_neg fun h => by omega]
  · rw [if_neg ha, if_neg ha]
theorem cT_J {μ : Mu} {t : Nat} {v : Int64} : cT (setJ μ (24 + 17 * t) v) t = bJ (cT μ t) v := by
  unfold cT bJ setJ
  exact Prod.ext rfl (Prod.ext rfl (if_pos rfl))
theorem cT_Jn {μ : Mu} {t t' : Nat} {v : Int64} (hn : t' ≠ t) : cT (setJ μ (24 + 17 * t) v) t' = cT μ t' := by
  unfold cT setJ
  exact Prod.ext rfl (Prod.ext rfl (if_neg (by omega)))
-- other cells
theorem cT_Fo {μ : Mu} {t k j : Nat} {v : Int32} (h : k < 23 ∨ 91 ≤ k) (ht : t < 4) : cT (setF μ k j v) t = cT μ t := by
  unfold cT setF
  refine Prod.ext (funext fun a => funext fun b => ?_) (Prod.ext rfl rfl)
  show (if a < 17 then (if 23 + a + 17 * t = k ∧ b = j then v else μ.1 (23 + a + 17 * t) b) else 0) = if a < 17 then μ.1 (23 + a + 17 * t) b else 0
  by_cases ha : a < 17
  · rw [if_pos ha, if_pos ha, if_neg fun h => by omega]
  · rw [if_neg ha, if_neg ha]
theorem cT_Ao {μ : Mu} {t k j : Nat} {v : Int32} (h : k < 23 ∨ 91 ≤ k) (ht : t < 4) : cT (setA μ k j v) t = cT μ t := by
  unfold cT setA
  refine Prod.ext rfl (Prod.ext (funext fun a => funext fun b => ?_) rfl)
  show (if a < 17 then (if 23 + a + 17 * t = k ∧ b = j then v else μ.2.1 (23 + a + 17 * t) b) else 0) = if a < 17 then μ.2.1 (23 + a + 17 * t) b else 0
  by_cases ha : a < 17
  · rw [if_pos ha, if_pos ha, if_neg fun h => by omega]
  · rw [if_neg ha, if_neg ha]
theorem cT_Go {μ : Mu} {t k : Nat} {f : Nat → Int32} (h : k < 23 ∨ 91 ≤ k) (ht : t < 4) : cT (setG μ k f) t = cT μ t := by
  unfold cT setG
  refine Prod.ext rfl (Prod.ext (funext fun a => funext fun b => ?_) rfl)
  show (if a < 17 then ((if 23 + a + 17 * t = k then f else μ.2.1 (23 + a + 17 * t)) b) else 0) = if a < 17 then μ.2.1 (23 + a + 17 * t) b else 0
  by_cases ha : a < 17
  · rw [if_pos ha, if_pos ha, if_neg fun h => by omega]
  · rw [if_neg ha, if_neg ha]
/-- nothing of the reference's cells has changed; nothing of the class's -/
def refEq (μ μ' : Mu) : Prop := ∀ k, 91 ≤ k → μ'.1 k = μ.1 k ∧ μ'.2.1 k = μ.2.1 k
def clsEq (μ μ' : Mu) : Prop := (∀ k, k < 91 → μ'.1 k = μ.1 k ∧ μ'.2.1 k = μ.2.1 k) ∧ μ'.2.2 = μ.2.2
theorem refEq.rf {μ : Mu} : refEq μ μ := fun _ _ => ⟨rfl, rfl⟩
theorem clsEq.rf {μ : Mu} : clsEq μ μ := ⟨fun _ _ => ⟨rfl, rfl⟩, rfl⟩
theorem refEq.tr {μ μ1 μ2 : Mu} (h : refEq μ μ1) (h2 : refEq μ1 μ2) : refEq μ μ2 := fun k hk => ⟨(h2 k hk).1.trans (h k hk).1, (h2 k hk).2.trans (h k hk).2⟩
theorem clsEq.tr {μ μ1 μ2 : Mu} (h : clsEq μ μ1) (h2 : clsEq μ1 μ2) : clsEq μ μ2 := ⟨fun k hk => ⟨(h2.1 k hk).1.trans (h.1 k hk).1, (h2.1 k hk).2.trans (h.1 k hk).2⟩, h2.2.trans h.2⟩
theorem refEq.F {μ μ1 : Mu} {k j : Nat} {v : Int32} (h : refEq μ μ1) (hk : k < 91) : refEq μ (setF μ1 k j v) := fun a ha => ⟨(funext fun b => if_neg fun h => by omega : (setF μ1 k j v).1 a = μ1.1 a).trans (h a ha).1, (h a ha).2⟩
theorem refEq.A {μ μ1 : Mu} {k j : Nat} {v : Int32} (h : refEq μ μ1) (hk : k < 91) : refEq μ (setA μ1 k j v) := fun a ha => ⟨(h a ha).1, (funext fun b => if_neg fun h => by omega : (setA μ1 k j v).2.1 a = μ1.2.1 a).trans (h a ha).2⟩
theorem refEq.G {μ μ1 : Mu} {k : Nat} {f : Nat → Int32} (h : refEq μ μ1) (hk : k < 91) : refEq μ (setG μ1 k f) := fun a ha => ⟨(h a ha).1, (if_neg (by omega) : (setG μ1 k f).2.1 a = μ1.2.1 a).trans (h a ha).2⟩
theorem refEq.J {μ μ1 : Mu} {k : Nat} {v : Int64} (h : refEq μ μ1) : refEq μ (setJ μ1 k v) := fun a ha => h a ha
theorem clsEq.F {μ μ1 : Mu} {k j : Nat} {v : Int32} (h : clsEq μ μ1) (hk : 91 ≤ k) : clsEq μ (setF μ1 k j v) := ⟨fun a ha => ⟨(funext fun b => if_neg fun h => by omega : (setF μ1 k j v).1 a = μ1.1 a).trans (h.1 a ha).1, (h.1 a ha).2⟩, h.2⟩
theorem clsEq.A {μ μ1 : Mu} {k j : Nat} {v : Int32} (h : clsEq μ μ1) (hk : 91 ≤ k) : clsEq μ (setA μ1 k j v) := ⟨fun a ha => ⟨(h.1 a ha).1, (funext fun b => if_neg fun h => by omega : (setA μ1 k j v).2.1 a = μ1.2.1 a).trans (h.1 a ha).2⟩, h.2⟩
theorem clsEq.T {μ μ1 : Mu} (h : clsEq μ μ1) {t : Nat} (ht : t < 4) : cT μ1 t = cT μ t := by
  unfold cT
  refine Prod.ext (funext fun a => funext fun b => ?_) (Prod.ext (funext fun a => funext fun b => ?_) (by rw [h.2]))
  · show (if a < 17 then μ1.1 (23 + a + 17 * t) b else 0) = if a < 17 then μ.1 (23 + a + 17 * t) b else 0
    by_cases ha : a < 17
    · rw [if_pos ha, if_pos ha, (h.1 _ (by omega)).1]
    · rw [if_neg ha, if_neg ha]
  · show (if a < 17 then μ1.2.1 (23 + a + 17 * t) b else 0) = if a < 17 then μ.2.1 (23 + a + 17 * t) b else 0
    by_cases ha : a < 17
    · rw [if_pos ha, if_pos ha, (h.1 _ (by omega)).2]
    · rw [if_neg ha, if_neg ha]
theorem clsEq.P {μ μ1 : Mu} (h : clsEq μ μ1) {p : Nat} (hp : p < 4) : cP μ1 p = cP μ p := by
  unfold cP
  refine Prod.ext (by rw [(h.1 _ (by omega)).1]) (funext fun a => funext fun b => ?_)
  show (if a < 4 then μ1.2.1 (4 + a + 5 * p) b else 0) = if a < 4 then μ.2.1 (4 + a + 5 * p) b else 0
  by_cases ha : a < 4
  · rw [if_pos ha, if_pos ha, (h.1 _ (by omega)).2]
  · rw [if_neg ha, if_neg ha]
theorem clsEq.Gl {μ μ1 : Mu} (h : clsEq μ μ1) : cG μ1 = cG μ := (h.1 0 (by omega)).1
theorem refEq.V {μ μ1 : Mu} (h : refEq μ μ1) (t : Nat) : rV μ1 t = rV μ t := by
  unfold rV
  refine Prod.ext (funext fun a => ?_) (funext fun a => funext fun b => ?_)
  · show (if isS a = true then μ1.2.1 a t else 0) = if isS a = true then μ.2.1 a t else 0
    by_cases ha : isS a = true
    · rw [if_pos ha, if_pos ha, (h a _).2]
      simp only [isS, Bool.or_eq_true, beq_iff_eq, Bool.and_eq_true, decide_eq_true_eq] at ha
      omega
    · rw [if_neg ha, if_neg ha]
  · show (if b < wd a then μ1.2.1 a (wd a * t + b) else 0) = if b < wd a then μ.2.1 a (wd a * t + b) else 0
    by_cases hb : b < wd a
    · rw [if_pos hb, if_pos hb, (h a _).2]
      unfold wd at hb
      split at hb
      · omega
      · split at hb
        · omega
        · split at hb
          · omega
          · split at hb
            · omega
            · split at hb <;> omega
    · rw [if_neg hb, if_neg hb]
theorem refEq.Gl {μ μ1 : Mu} (h : refEq μ μ1) : rG μ1 = rG μ := (h 91 (by omega)).1
theorem refEq.Sh {μ μ1 : Mu} (h : refEq μ μ1) {a : Nat} (ha : 91 ≤ a) : rS μ1 a = rS μ a := by
  funext k
  unfold rS
  rw [(h a ha).2]
-- the reference's slices
theorem rV_s {μ : Mu} {t k : Nat} {v : Int32} (hk : isS k = true) (hw : wd k = 0) : rV (setA μ k t v) t = pF (rV μ t) k v := by
  unfold rV pF setA
  refine Prod.ext (funext fun a => ?_) (funext fun a => funext fun b => ?_)
  · show (if isS a = true then (if a = k ∧ t = t then v else μ.2.1 a t) else 0) = if a = k then v else if isS a = true then μ.2.1 a t else 0
    by_cases ha : a = k
    · subst ha; rw [if_pos hk, if_pos ⟨rfl, rfl⟩, if_pos rfl]
    · rw [if_neg ha, if_neg (c := a = k ∧ t = t) fun h => ha h.1]
  · show (if b < wd a then (if a = k ∧ wd a * t + b = t then v else μ.2.1 a (wd a * t + b)) else 0) = if b < wd a then μ.2.1 a (wd a * t + b) else 0
    by_cases hb : b < wd a
    · rw [if_pos hb, if_pos hb, if_neg]
      rintro ⟨rfl, -⟩
      omega
    · rw [if_neg hb, if_neg hb]
theorem rV_sn {μ : Mu} {t t' k : Nat} {v : Int32} (hn : t' ≠ t) (hw : wd k = 0) : rV (setA μ k t v) t' = rV μ t' := by
  unfold rV setA
  refine Prod.ext (funext fun a => ?_) (funext fun a => funext fun b => ?_)
  · show (if isS a = true then (if a = k ∧ t' = t then v else μ.2.1 a t') else 0) = if isS a = true then μ.2.1 a t' else 0
    rw [if_neg (c := a = k ∧ t' = t) fun h => hn h.2]
  · show (if b < wd a then (if a = k ∧ wd a * t' + b = t then v else μ.2.1 a (wd a * t' + b)) else 0) = if b < wd a then μ.2.1 a (wd a * t' + b) else 0
    by_cases hb : b < wd a
    · rw [if_pos hb, if_pos hb, if_neg]
      rintro ⟨rfl, -⟩
      omega
    · rw [if_neg hb, if_neg hb]
theorem rV_a {μ : Mu} {t k i : Nat} {v : Int32} (hk : isS k = false) (hi : i < wd k) : rV (setA μ k (wd k * t + i) v) t = pA (rV μ t) k i v := by
  unfold rV pA setA
  refine Prod.ext (funext fun a => ?_) (funext fun a => funext fun b => ?_)
  · show (if isS a = true then (if a = k ∧ t = wd k * t + i then v else μ.2.1 a t) else 0) = if isS a = true then μ.2.1 a t else 0
    by_cases ha : isS a = true
    · rw [if_pos ha, if_pos ha, if_neg]
      rintro ⟨rfl, -⟩
      rw [hk] at ha; cases ha
    · rw [if_neg ha, if_neg ha]
  · show (if b < wd a then (if a = k ∧ wd a * t + b = wd k * t + i then v else μ.2.1 a (wd a * t + b)) else 0) = if a = k ∧ b = i then v else if b < wd a then μ.2.1 a (wd a * t + b) else 0
    by_cases hb : b < wd a
    · rw [if_pos hb, if_pos hb]
      by_cases h : a = k ∧ b = i
      · obtain ⟨rfl, rfl⟩ := h
        rw [if_pos ⟨rfl, rfl⟩, if_pos ⟨rfl, rfl⟩]
      · rw [if_neg h, if_neg]
        rintro ⟨rfl, h2⟩
        exact h ⟨rfl, by omega⟩
    · rw [if_neg hb, if_neg, if_neg hb]
      rintro ⟨rfl, rfl⟩
      exact hb hi
theorem mul_ne {w t t' i b : Nat} (hn : t' ≠ t) (hi : i < w) (hb : b < w) : ¬ w * t' + b = w * t + i := by
  intro h
  rcases Nat.lt_or_gt_of_ne hn with h1 | h1
  · have h2 : w * (t' + 1) ≤ w * t := Nat.mul_le_mul_left w h1
    rw [Nat.mul_add] at h2
    omega
  · have h2 : w * (t + 1) ≤ w * t' := Nat.mul_le_mul_left w h1
    rw [Nat.mul_add] at h2
    omega
theorem rV_an {μ : Mu} {t t' k i : Nat} {v : Int32} (hn : t' ≠ t) (hk : isS k = false) (hi : i < wd k) : rV (setA μ k (wd k * t + i) v) t' = rV μ t' := by
  unfold rV setA
  refine Prod.ext (funext fun a => ?_) (funext fun a => funext fun b => ?_)
  · show (if isS a = true then (if a = k ∧ t' = wd k * t + i then v else μ.2.1 a t') else 0) = if isS a = true then μ.2.1 a t' else 0
    by_cases ha : isS a = true
    · rw [if_pos ha, if_pos ha, if_neg]
      rintro ⟨rfl, -⟩
      rw [hk] at ha; cases ha
    · rw [if_neg ha, if_neg ha]
  · show (if b < wd a then (if a = k ∧ wd a * t' + b = wd k * t + i then v else μ.2.1 a (wd a * t' + b)) else 0) = if b < wd a then μ.2.1 a (wd a * t' + b) else 0
    by_cases hb : b < wd a
    · rw [if_pos hb, if_pos hb, if_neg]
      rintro ⟨rfl, h2⟩
      exact mul_ne hn hi hb h2
    · rw [if_neg hb, if_neg hb]
theorem rV_o {μ : Mu} {t k i : Nat} {v : Int32} (hk : isS k = false) (hw : wd k = 0) : rV (setA μ k i v) t = rV μ t := by
  unfold rV setA
  refine Prod.ext (funext fun a => ?_) (funext fun a => funext fun b => ?_)
  · show (if isS a = true then (if a = k ∧ t = i then v else μ.2.1 a t) else 0) = if isS a = true then μ.2.1 a t else 0
    by_cases ha : isS a = true
    · rw [if_pos ha, if_pos ha, if_neg]
      rintro ⟨rfl, -⟩
      rw [hk] at ha; cases ha
    · rw [if_neg ha, if_neg ha]
  · show (if b < wd a then (if a = k ∧ wd a * t + b = i then v else μ.2.1 a (wd a * t + b)) else 0) = if b < wd a then μ.2.1 a (wd a * t + b) else 0
    by_cases hb : b < wd a
    · rw [if_pos hb, if_pos hb, if_neg]
      rintro ⟨rfl, -⟩
      omega
    · rw [if_neg hb, if_neg hb]
theorem rV_F {μ : Mu} {t k j : Nat} {v : Int32} : rV (setF μ k j v) t = rV μ t := rfl
-- programs
theorem cP_F {μ : Mu} {p j : Nat} {v : Int32} : cP (setF μ (3 + 5 * p) j v) p = pF (cP μ p) j v := by
  unfold cP pF setF
  refine Prod.ext (funext fun b => ?_) rfl
  show (if 3 + 5 * p = 3 + 5 * p ∧ b = j then v else μ.1 (3 + 5 * p) b) = if b = j then v else μ.1 (3 + 5 * p) b
  by_cases hb : b = j
  · rw [if_pos hb, if_pos ⟨rfl, hb⟩]
  · rw [if_neg hb, if_neg fun h => hb h.2]
theorem cP_Fn {μ : Mu} {p k j : Nat} {v : Int32} (hk : k ≠ 3 + 5 * p) : cP (setF μ k j v) p = cP μ p := by
  unfold cP setF
  refine Prod.ext (funext fun b => ?_) rfl
  exact if_neg fun h => hk h.1.symm
theorem cP_A {μ : Mu} {p k i : Nat} {v : Int32} (h1 : 4 ≤ k) (h2 : k < 8) : cP (setA μ (k + 5 * p) i v) p = pA (cP μ p) (k - 4) i v := by
  unfold cP pA setA
  refine Prod.ext rfl (funext fun a => funext fun b => ?_)
  show (if a < 4 then (if 4 + a + 5 * p = k + 5 * p ∧ b = i then v else μ.2.1 (4 + a + 5 * p) b) else 0) = if a = k - 4 ∧ b = i then v else if a < 4 then μ.2.1 (4 + a + 5 * p) b else 0
  by_cases ha : a < 4
  · rw [if_pos ha, if_pos ha]
    by_cases hk : a = k - 4 ∧ b = i
    · rw [if_pos hk, if_pos ⟨by omega, hk.2⟩]
    · rw [if_neg hk, if_neg fun h => hk ⟨by omega, h.2⟩]
  · rw [if_neg ha, if_neg (fun h => by omega), if_neg ha]
theorem cP_An {μ : Mu} {p k i : Nat} {v : Int32} (hk : k < 4 + 5 * p ∨ 8 + 5 * p ≤ k) : cP (setA μ k i v) p = cP μ p := by
  unfold cP setA
  refine Prod.ext rfl (funext fun a => funext fun b => ?_)
  show (if a < 4 then (if 4 + a + 5 * p = k ∧ b = i then v else μ.2.1 (4 + a + 5 * p) b) else 0) = if a < 4 then μ.2.1 (4 + a + 5 * p) b else 0
  by_cases ha : a < 4
  · rw [if_pos ha, if_pos ha, if_neg fun h => by omega]
  · rw [if_neg ha, if_neg ha]
theorem cP_Gn {μ : Mu} {p k : Nat} {f : Nat → Int32} (hk : k < 4 + 5 * p ∨ 8 + 5 * p ≤ k) : cP (setG μ k f) p = cP μ p := by
  unfold cP setG
  refine Prod.ext rfl (funext fun a => funext fun b => ?_)
  show (if a < 4 then ((if 4 + a + 5 * p = k then f else μ.2.1 (4 + a + 5 * p)) b) else 0) = if a < 4 then μ.2.1 (4 + a + 5 * p) b else 0
  by_cases ha : a < 4
  · rw [if_pos ha, if_pos ha, if_neg fun h => by omega]
  · rw [if_neg ha, if_neg ha]
