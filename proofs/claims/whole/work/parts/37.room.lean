/-! live; room, that is: a collection. -/
theorem ownM {sc : Nat} {B : TB} (hI : IT sc B) : ownS B.2.2 := fun r hr => ⟨(hI.2.2.2.2.2.2.2.1 r hr).1, (hI.2.2.2.2.2.2.2.1 r hr).2.1⟩
theorem sim_live {c : Nat} {μ : Mu} {a : Int32} (hi : Inv c μ) : Sim c μ (wp_Host_live a) (wp_Mod_live a) := by
  rcases arg4 a with hb | ⟨t, ht, rfl⟩
  · exact Sim.get hi (-1) (fun Q hq => ten_bad hb ⟨fun _ => hq, fun h => absurd rfl h⟩) (fun μr _ Q hq => fou_bad hb ⟨fun h => absurd rfl h, fun _ => hq⟩)
  obtain ⟨len, sc, s, -, hsc, -, hT, -⟩ := id hi
  have hI := (hT t ht).1
  obtain ⟨d, hd, ed⟩ := hI.1.1
  obtain ⟨m, hm, em⟩ := hI.1.2.1
  obtain ⟨F, hF, goF⟩ := live_ok hsc.1 hI
  refine ⟨nI (cnt (fun c => tb F (9 + c)) 24), μ, fun Q hq => ten_ok ht ⟨fun h => absurd h z1, fun _ => ⟨in4 ht, ?_⟩⟩, refEq.rf, hi, fun μr hr => ?_⟩
  · rw [cl4 ht]
    exact goF _ (bitcount_ok (fun r h => ((hF r).mp h).own) hq)
  · obtain ⟨g, hg, go⟩ := markLive_ok ht hsc.1 hI (hr.2.1 t ht).1 (by have := (hr.2.1 t ht).2; rw [hsc.2, nI_clamp (by omega)] at this; exact this) ed hd em hm (shape_at hi hr ht ed hd)
    refine ⟨stM μr g, fun Q hq => fou_ok ht ⟨fun _ => go _ (counted_ok ht ?_), fun h => absurd h z1⟩, clsEq.rf.G (by omega), hr.mark⟩
    have : cnt (fC (stM μr g) t (decide ((1 : Int32) = 0))) 24 = cnt (fun c => tb F (9 + c)) 24 := by
      refine cnt_congr fun c hc => ?_
      have h := (hr.2.1 t ht).1.2.2.2.2.2.2.2.2.1 c hc
      have e : μr.2.1 97 (24 * t + c) = (rV μr t).2 97 c := rVa (k := 97) hc
      unfold fC
      rw [stM_o (by decide), e, h, stM_at]
      have hgc := hg c hc
      rw [← hF] at hgc
      cases hb : tb F (9 + c) with
      | true =>
        have hm := Rc_made hsc.1 hI ((hF _).mp hb)
        rw [hm]
        have := hgc.mpr hb
        simp [this]
      | false =>
        have : g (24 * t + c) = 0 := Classical.byContradiction fun h0 => by rw [hgc.mp h0] at hb; cases hb
        simp [this]
    rw [this]
    exact hq
-- an array of the reference's as a function
theorem gA {μ : Mu} {k i : Nat} {f : Nat → Int32} {v : Int32} : setA (setG μ k f) k i v = setG μ k (upd f i v) := by
  unfold setA setG upd
  refine Prod.ext rfl (Prod.ext (funext fun a => funext fun b => ?_) rfl)
  show (if a = k ∧ b = i then v else (if a = k then f else μ.2.1 a) b) = (if a = k then (fun j => if j = i then v else f j) else μ.2.1 a) b
  by_cases ha : a = k
  · subst ha
    by_cases hb : b = i
    · rw [if_pos ⟨rfl, hb⟩, if_pos rfl, if_pos hb]
    · rw [if_neg (fun h => hb h.2), if_pos rfl, if_pos rfl, if_neg hb]
  · rw [if_neg fun h => ha h.1, if_neg ha, if_neg ha]
theorem g_at {μ : Mu} {k : Nat} {f : Nat → Int32} : (setG μ k f).2.1 k = f := if_pos rfl
theorem g_o {μ : Mu} {k a : Nat} {f : Nat → Int32} (h : a ≠ k) : (setG μ k f).2.1 a = μ.2.1 a := if_neg h
theorem g_self (μ : Mu) (k : Nat) : setG μ k (μ.2.1 k) = μ := by
  unfold setG
  refine Prod.ext rfl (Prod.ext (funext fun a => ?_) rfl)
  show (if a = k then μ.2.1 k else μ.2.1 a) = μ.2.1 a
  split
  · next h => rw [h]
  · rfl
theorem a_o {μ : Mu} {k i a : Nat} {v : Int32} (h : a ≠ k) : (setA μ k i v).2.1 a = μ.2.1 a := funext fun _ => if_neg fun e => h e.1
theorem a_at {μ : Mu} {k i : Nat} {v : Int32} : (setA μ k i v).2.1 k i = v := if_pos ⟨rfl, rfl⟩
theorem a_n {μ : Mu} {k i a b : Nat} {v : Int32} (h : a ≠ k ∨ b ≠ i) : (setA μ k i v).2.1 a b = μ.2.1 a b := if_neg fun e => h.elim (fun x => x e.1) (fun x => x e.2)
theorem fits_ok {k n cap : Nat} {μ : Mu} {Q : Int32 → Mu → Prop} (ho : ownS (μ.2.2 (24 + 17 * k))) (ec : μ.1 (24 + 17 * k) 5 = nI cap) (hc : cap ≤ 24) (hn : n ≤ 24) (hq : Q (if cnt (fun c => tb (μ.2.2 (24 + 17 * k)) (9 + c)) 24 + n ≤ cap then 1 else 0) μ) : wp_Heap_fits k (nI n) μ Q := by
  have hu := cnt_le (fun c => tb (μ.2.2 (24 + 17 * k)) (9 + c)) 24
  refine bitcount_ok ho ⟨fun h => ?_, fun h => ?_⟩
  · rw [ec, nI_add, nI_ltI (by omega) (by omega)] at h
    rw [if_neg (by omega)] at hq; exact hq
  · rw [ec, nI_add, nI_ltI (by omega) (by omega)] at h
    rw [if_pos (by omega)] at hq; exact hq
/-- a tenant's block after a collection -/
def gcB (B : TB) (m : Int64) (cl : Int32) : TB := bF (bJ B m) 1 6 cl
theorem gc_self (B : TB) : gcB B B.2.2 (B.1 1 6) = B := by
  unfold gcB bF bJ
  refine Prod.ext (funext fun a => funext fun b => ?_) rfl
  show (if a = 1 ∧ b = 6 then B.1 1 6 else B.1 a b) = B.1 a b
  split
  · next h => rw [h.1, h.2]
  · rfl
theorem IT_gc {sc : Nat} {B : TB} {m : Int64} {cl : Int32} (h8 : sc ≤ 8) (hI : IT sc B) (hm : ∀ r, tb m r = true ↔ Rc B (rts B) r) : IT sc (gcB B m cl) := by
  have keep : ∀ r, okR sc B.2.2 r → (9 ≤ r → Rc B (rts B) r) → okR sc m r := by
    intro r hr h
    rcases hr with h0 | h1 | h2
    · exact Or.inl h0
    · exact Or.inr (Or.inl h1)
    · exact Or.inr (Or.inr ⟨h2.1, h2.2.1, (hm r).mpr (h h2.1)⟩)
  obtain ⟨a1, a2, a3, a4, a5, a6, a7, a8, a9, a10⟩ := hI
  refine ⟨a1, a2, a3, a4, fun i hi => ?_, ⟨?_, ?_⟩, fun i hi => ?_, fun r hr => ?_, a9, a10⟩
  · rcases a5 i hi with h | ⟨h1, r, hr, e⟩
    · exact Or.inl h
    · exact Or.inr ⟨h1, r, keep r hr fun h9 => Rc.root (Or.inl ⟨i, hi, by rw [h1]; decide, e⟩) h9 (okR_lt h8 hr), e⟩
  · obtain ⟨r, hr, e⟩ := a6.1
    exact ⟨r, keep r hr fun h9 => Rc.root (Or.inr (Or.inl (Or.inl e))) h9 (okR_lt h8 hr), e⟩
  · obtain ⟨r, hr, e⟩ := a6.2
    exact ⟨r, keep r hr fun h9 => Rc.root (Or.inr (Or.inl (Or.inr e))) h9 (okR_lt h8 hr), e⟩
  · obtain ⟨r, hr, e⟩ := a7 i hi
    exact ⟨r, keep r hr fun h9 => Rc.root (Or.inr (Or.inr ⟨i, hi, e⟩)) h9 (okR_lt h8 hr), e⟩
  · have hR := (hm r).mp hr
    have hmd := Rc_made h8 ⟨a1, a2, a3, a4, a5, a6, a7, a8, a9, a10⟩ hR
    obtain ⟨b1, b2, ⟨x, hx, ex⟩, y, hy, ey⟩ := a8 r hmd
    exact ⟨b1, b2, ⟨x, keep x hx fun h9 => hR.next (Or.inl ex) h9 (okR_lt h8 hx), ex⟩, y, keep y hy fun h9 => hR.next (Or.inr ey) h9 (okR_lt h8 hy), ey⟩
theorem RT_gc {t : Nat} {B : TB} {S S' : PB} {m : Int64} {cl : Int32} (h : RT t B S) (e1 : ∀ a, a ≠ 110 → S'.1 a = S.1 a) (e2 : ∀ a, a ≠ 97 → S'.2 a = S.2 a) (h110 : S'.1 110 = cl) (h97 : ∀ c, c < 24 → S'.2 97 c = if tb m (9 + c) = true then 1 else 0) (hs : ∀ r, tb m r = true → tb B.2.2 r = true) : RT t (gcB B m cl) S' := by
  obtain ⟨⟨a1, a2, a3, a4, a5, a6⟩, ⟨b1, b2, b3, b4, b5, b6⟩, c1, ⟨d1, d2, d3, d4⟩, f1, f2, f3, f4, f5, f6⟩ := h
  refine ⟨?_, ?_, ?_, ?_, ?_, ?_, ?_, ?_, h97, fun c hc hb => ?_⟩
  · rw [e1 106 (by decide), e1 107 (by decide), e1 108 (by decide), e1 105 (by decide), e1 109 (by decide), e1 111 (by decide)]
    exact ⟨a1, a2, a3, a4, a5, a6⟩
  · rw [e1 104 (by decide), h110, e1 112 (by decide), e1 116 (by decide), e1 118 (by decide), e1 120 (by decide)]
    exact ⟨b1, rfl, b3, b4, b5, b6⟩
  · rw [e2 121 (by decide)]; exact c1
  · rw [e2 114 (by decide)]; exact ⟨d1, d2, d3, d4⟩
  · rw [e2 113 (by decide)]; exact f1
  · rw [e2 115 (by decide)]; exact f2
  · rw [e2 117 (by decide)]; exact f3
  · rw [e2 119 (by decide)]; exact f4
  · rw [e2 98 (by decide), e2 99 (by decide), e2 100 (by decide)]
    exact f6 c hc (hs _ hb)
