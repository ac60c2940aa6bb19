theorem bz {x : Int32} (h : (x != 0) = false) : x = 0 := by simpa using h
theorem bnz {x : Int32} (h : (x != 0) = true) : ¬ x = 0 := by simpa using h
theorem step_0 {c t p pos n d s rr : Nat} {arg : Int32} {l' : List Bool} {μ : Mu} (hi : Inv c μ) (ht : t < 4) (D : Dat t p pos n d 0 arg l' μ) (es : (cT μ t).1 0 11 = nI s) (er : (cT μ t).1 0 10 = nI rr) (hrr : rr ≤ 3000) (hs : s < rr) : StepR c t μ := by
  obtain ⟨hC, eT, hRX⟩ := step_ctx hi ht D es er hrr hs
  have E8 : (cT (m11 μ t s pos) t).1 0 8 = nI p := by rw [eT]; exact D.2.1.1
  have E9 : (cT (m11 μ t s pos) t).1 0 9 = nI (pos + 1) := by rw [eT]; rfl
  have Er : (cT (m11 μ t s pos) t).2.1 = (cT μ t).2.1 := by rw [eT]; rfl
  have hty := D.2.2.2.2.1
  have hlen := D.2.2.2.2.2.1
  have hj := D.2.2.2.2.2.2.1
  have hnx := D.2.2.2.2.2.2.2.1
  have hag := D.2.2.2.1
  have out := op_0 (l := List.replicate 7 false) (a := arg) hC
  rw [E8, E9] at out
  exact step_fin (flag := 0) hi ht D es er hrr hs out (fun Q hq => ins_go ht D es (sw_0 hq)) (Or.inl ⟨rfl, rfl⟩) (fun h => absurd h (by decide)) (fun μr hr Q hq => perf_go ht D hr (fun h => absurd h (by decide)) (j56_go ht D es hr ⟨fun h => absurd h (by decide), fun _ _ => j99_p (by decide) hq, fun h => absurd h (by decide)⟩))
theorem step_1 {c t p pos n d s rr : Nat} {arg : Int32} {l' : List Bool} {μ : Mu} (hi : Inv c μ) (ht : t < 4) (D : Dat t p pos n d 1 arg l' μ) (es : (cT μ t).1 0 11 = nI s) (er : (cT μ t).1 0 10 = nI rr) (hrr : rr ≤ 3000) (hs : s < rr) : StepR c t μ := by
  obtain ⟨hC, eT, hRX⟩ := step_ctx hi ht D es er hrr hs
  have E8 : (cT (m11 μ t s pos) t).1 0 8 = nI p := by rw [eT]; exact D.2.1.1
  have E9 : (cT (m11 μ t s pos) t).1 0 9 = nI (pos + 1) := by rw [eT]; rfl
  have Er : (cT (m11 μ t s pos) t).2.1 = (cT μ t).2.1 := by rw [eT]; rfl
  have hty := D.2.2.2.2.1
  have hlen := D.2.2.2.2.2.1
  have hj := D.2.2.2.2.2.2.1
  have hnx := D.2.2.2.2.2.2.2.1
  have hag := D.2.2.2.1
  have hnext : pos + 1 < n ∧ (cP μ p).2 2 (pos + 1) = nI (codeL l') := (hnx.resolve_left (by decide)).resolve_left (by decide)
  have hl : some (false :: tys ((cT μ t).2.1 8) d) = some l' := hty
  injection hl with hl
  subst hl
  have h6 : d < 6 := by
    have h7 : (tys ((cT μ t).2.1 8) d).length + 1 ≤ 6 := hlen
    rw [tys_len] at h7; omega
  have out := op_1 (v := arg) hC h6
  rw [E8, E9, Er] at out
  exact step_fin (flag := 0) hi ht D es er hrr hs out (fun Q hq => ins_go ht D es (sw_1 hq)) (Or.inl ⟨rfl, rfl⟩) (fun _ => ⟨pos + 1, hnext.1, rfl, hnext.2⟩) (fun μr hr Q hq => perf_go ht D hr (fun h => absurd h (by decide)) (j56_go ht D es hr ⟨fun h => absurd h (by decide), fun _ _ => j99_p (by decide) hq, fun h => absurd h (by decide)⟩))
theorem step_2 {c t p pos n d s rr : Nat} {arg : Int32} {l' : List Bool} {μ : Mu} (hi : Inv c μ) (ht : t < 4) (D : Dat t p pos n d 2 arg l' μ) (es : (cT μ t).1 0 11 = nI s) (er : (cT μ t).1 0 10 = nI rr) (hrr : rr ≤ 3000) (hs : s < rr) : StepR c t μ := by
  obtain ⟨hC, eT, hRX⟩ := step_ctx hi ht D es er hrr hs
  have E8 : (cT (m11 μ t s pos) t).1 0 8 = nI p := by rw [eT]; exact D.2.1.1
  have E9 : (cT (m11 μ t s pos) t).1 0 9 = nI (pos + 1) := by rw [eT]; rfl
  have Er : (cT (m11 μ t s pos) t).2.1 = (cT μ t).2.1 := by rw [eT]; rfl
  have hty := D.2.2.2.2.1
  have hlen := D.2.2.2.2.2.1
  have hj := D.2.2.2.2.2.2.1
  have hnx := D.2.2.2.2.2.2.2.1
  have hag := D.2.2.2.1
  have hnext : pos + 1 < n ∧ (cP μ p).2 2 (pos + 1) = nI (codeL l') := (hnx.resolve_left (by decide)).resolve_left (by decide)
  obtain ⟨r, hl1, rfl⟩ := ty_ff (by decide) hty
  obtain ⟨e1, rfl, b1, t1⟩ := tcons hl1
  obtain ⟨e2, rfl, b2, t2⟩ := tcons t1
  subst t2
  have out := op_calc (k := 2) (a := arg) hC (by decide) (by rw [Er]; exact bz b1) (by rw [Er]; exact bz b2)
  rw [E8, E9, Er] at out
  exact step_fin (flag := 0) hi ht D es er hrr hs out (fun Q hq => ins_go ht D es (sw_2 hq)) (Or.inl ⟨rfl, rfl⟩) (fun _ => ⟨pos + 1, hnext.1, rfl, hnext.2⟩) (fun μr hr Q hq => perf_go ht D hr (fun h => absurd h (by decide)) (j56_go ht D es hr ⟨fun h => absurd h (by decide), fun _ _ => j99_p (by decide) hq, fun h => absurd h (by decide)⟩))
theorem step_3 {c t p pos n d s rr : Nat} {arg : Int32} {l' : List Bool} {μ : Mu} (hi : Inv c μ) (ht : t < 4) (D : Dat t p pos n d 3 arg l' μ) (es : (cT μ t).1 0 11 = nI s) (er : (cT μ t).1 0 10 = nI rr) (hrr : rr ≤ 3000) (hs : s < rr) : StepR c t μ := by
  obtain ⟨hC, eT, hRX⟩ := step_ctx hi ht D es er hrr hs
  have E8 : (cT (m11 μ t s pos) t).1 0 8 = nI p := by rw [eT]; exact D.2.1.1
  have E9 : (cT (m11 μ t s pos) t).1 0 9 = nI (pos + 1) := by rw [eT]; rfl
  have Er : (cT (m11 μ t s pos) t).2.1 = (cT μ t).2.1 := by rw [eT]; rfl
  have hty := D.2.2.2.2.1
  have hlen := D.2.2.2.2.2.1
  have hj := D.2.2.2.2.2.2.1
  have hnx := D.2.2.2.2.2.2.2.1
  have hag := D.2.2.2.1
  have hnext : pos + 1 < n ∧ (cP μ p).2 2 (pos + 1) = nI (codeL l') := (hnx.resolve_left (by decide)).resolve_left (by decide)
  obtain ⟨r, hl1, rfl⟩ := ty_ff (by decide) hty
  obtain ⟨e1, rfl, b1, t1⟩ := tcons hl1
  obtain ⟨e2, rfl, b2, t2⟩ := tcons t1
  subst t2
  have out := op_calc (k := 3) (a := arg) hC (by decide) (by rw [Er]; exact bz b1) (by rw [Er]; exact bz b2)
  rw [E8, E9, Er] at out
  exact step_fin (flag := 0) hi ht D es er hrr hs out (fun Q hq => ins_go ht D es (sw_3 hq)) (Or.inl ⟨rfl, rfl⟩) (fun _ => ⟨pos + 1, hnext.1, rfl, hnext.2⟩) (fun μr hr Q hq => perf_go ht D hr (fun h => absurd h (by decide)) (j56_go ht D es hr ⟨fun h => absurd h (by decide), fun _ _ => j99_p (by decide) hq, fun h => absurd h (by decide)⟩))
theorem step_4 {c t p pos n d s rr : Nat} {arg : Int32} {l' : List Bool} {μ : Mu} (hi : Inv c μ) (ht : t < 4) (D : Dat t p pos n d 4 arg l' μ) (es : (cT μ t).1 0 11 = nI s) (er : (cT μ t).1 0 10 = nI rr) (hrr : rr ≤ 3000) (hs : s < rr) : StepR c t μ := by
  obtain ⟨hC, eT, hRX⟩ := step_ctx hi ht D es er hrr hs
  have E8 : (cT (m11 μ t s pos) t).1 0 8 = nI p := by rw [eT]; exact D.2.1.1
  have E9 : (cT (m11 μ t s pos) t).1 0 9 = nI (pos + 1) := by rw [eT]; rfl
  have Er : (cT (m11 μ t s pos) t).2.1 = (cT μ t).2.1 := by rw [eT]; rfl
  have hty := D.2.2.2.2.1
  have hlen := D.2.2.2.2.2.1
  have hj := D.2.2.2.2.2.2.1
  have hnx := D.2.2.2.2.2.2.2.1
  have hag := D.2.2.2.1
  have hnext : pos + 1 < n ∧ (cP μ p).2 2 (pos + 1) = nI (codeL l') := (hnx.resolve_left (by decide)).resolve_left (by decide)
  obtain ⟨r, hl1, rfl⟩ := ty_ff (by decide) hty
  obtain ⟨e1, rfl, b1, t1⟩ := tcons hl1
  obtain ⟨e2, rfl, b2, t2⟩ := tcons t1
  subst t2
  have out := op_calc (k := 4) (a := arg) hC (by decide) (by rw [Er]; exact bz b1) (by rw [Er]; exact bz b2)
  rw [E8, E9, Er] at out
  exact step_fin (flag := 0) hi ht D es er hrr hs out (fun Q hq => ins_go ht D es (sw_4 hq)) (Or.inl ⟨rfl, rfl⟩) (fun _ => ⟨pos + 1, hnext.1, rfl, hnext.2⟩) (fun μr hr Q hq => perf_go ht D hr (fun h => absurd h (by decide)) (j56_go ht D es hr ⟨fun h => absurd h (by decide), fun _ _ => j99_p (by decide) hq, fun h => absurd h (by decide)⟩))
theorem step_6 {c t p pos n d s rr : Nat} {arg : Int32} {l' : List Bool} {μ : Mu} (hi : Inv c μ) (ht : t < 4) (D : Dat t p pos n d 6 arg l' μ) (es : (cT μ t).1 0 11 = nI s) (er : (cT μ t).1 0 10 = nI rr) (hrr : rr ≤ 3000) (hs : s < rr) : StepR c t μ := by
  obtain ⟨hC, eT, hRX⟩ := step_ctx hi ht D es er hrr hs
  have E8 : (cT (m11 μ t s pos) t).1 0 8 = nI p := by rw [eT]; exact D.2.1.1
  have E9 : (cT (m11 μ t s pos) t).1 0 9 = nI (pos + 1) := by rw [eT]; rfl
  have Er : (cT (m11 μ t s pos) t).2.1 = (cT μ t).2.1 := by rw [eT]; rfl
  have hty := D.2.2.2.2.1
  have hlen := D.2.2.2.2.2.1
  have hj := D.2.2.2.2.2.2.1
  have hnx := D.2.2.2.2.2.2.2.1
  have hag := D.2.2.2.1
  have hnext : pos + 1 < n ∧ (cP μ p).2 2 (pos + 1) = nI (codeL l') := (hnx.resolve_left (by decide)).resolve_left (by decide)
  obtain ⟨r, hl1, rfl⟩ := ty_ff (by decide) hty
  obtain ⟨e1, rfl, b1, t1⟩ := tcons hl1
  obtain ⟨e2, rfl, b2, t2⟩ := tcons t1
  subst t2
  have out := op_calc (k := 6) (a := arg) hC (by decide) (by rw [Er]; exact bz b1) (by rw [Er]; exact bz b2)
  rw [E8, E9, Er] at out
  exact step_fin (flag := 0) hi ht D es er hrr hs out (fun Q hq => ins_go ht D es (sw_6 hq)) (Or.inl ⟨rfl, rfl⟩) (fun _ => ⟨pos + 1, hnext.1, rfl, hnext.2⟩) (fun μr hr Q hq => perf_go ht D hr (fun h => absurd h (by decide)) (j56_go ht D es hr ⟨fun h => absurd h (by decide), fun _ _ => j99_p (by decide) hq, fun h => absurd h (by decide)⟩))
theorem step_5 {c t p pos n d s rr : Nat} {arg : Int32} {l' : List Bool} {μ : Mu} (hi : Inv c μ) (ht : t < 4) (D : Dat t p pos n d 5 arg l' μ) (es : (cT μ t).1 0 11 = nI s) (er : (cT μ t).1 0 10 = nI rr) (hrr : rr ≤ 3000) (hs : s < rr) : StepR c t μ := by
  obtain ⟨hC, eT, hRX⟩ := step_ctx hi ht D es er hrr hs
  have E8 : (cT (m11 μ t s pos) t).1 0 8 = nI p := by rw [eT]; exact D.2.1.1
  have E9 : (cT (m11 μ t s pos) t).1 0 9 = nI (pos + 1) := by rw [eT]; rfl
  have Er : (cT (m11 μ t s pos) t).2.1 = (cT μ t).2.1 := by rw [eT]; rfl
  have hty := D.2.2.2.2.1
  have hlen := D.2.2.2.2.2.1
  have hj := D.2.2.2.2.2.2.1
  have hnx := D.2.2.2.2.2.2.2.1
  have hag := D.2.2.2.1
  have hnext : pos + 1 < n ∧ (cP μ p).2 2 (pos + 1) = nI (codeL l') := (hnx.resolve_left (by decide)).resolve_left (by decide)
  obtain ⟨r, hl1, rfl⟩ := ty_ff (by decide) hty
  obtain ⟨e1, rfl, b1, t1⟩ := tcons hl1
  obtain ⟨e2, rfl, b2, t2⟩ := tcons t1
  subst t2
  have out := op_5 (a := arg) hC (by rw [Er]; exact bz b1) (by rw [Er]; exact bz b2)
  rw [E8, E9, Er] at out
  exact step_fin (flag := 0) hi ht D es er hrr hs out (fun Q hq => ins_go ht D es (sw_5 hq)) (Or.inl ⟨rfl, rfl⟩) (fun _ => ⟨pos + 1, hnext.1, rfl, hnext.2⟩) (fun μr hr Q hq => perf_go ht D hr (fun h => absurd h (by decide)) (j56_go ht D es hr ⟨fun h => absurd h (by decide), fun _ _ => j99_p (by decide) hq, fun h => absurd h (by decide)⟩))
theorem step_7 {c t p pos n d s rr : Nat} {arg : Int32} {l' : List Bool} {μ : Mu} (hi : Inv c μ) (ht : t < 4) (D : Dat t p pos n d 7 arg l' μ) (es : (cT μ t).1 0 11 = nI s) (er : (cT μ t).1 0 10 = nI rr) (hrr : rr ≤ 3000) (hs : s < rr) : StepR c t μ := by
  obtain ⟨hC, eT, hRX⟩ := step_ctx hi ht D es er hrr hs
  have E8 : (cT (m11 μ t s pos) t).1 0 8 = nI p := by rw [eT]; exact D.2.1.1
  have E9 : (cT (m11 μ t s pos) t).1 0 9 = nI (pos + 1) := by rw [eT]; rfl
  have Er : (cT (m11 μ t s pos) t).2.1 = (cT μ t).2.1 := by rw [eT]; rfl
  have hty := D.2.2.2.2.1
  have hlen := D.2.2.2.2.2.1
  have hj := D.2.2.2.2.2.2.1
  have hnx := D.2.2.2.2.2.2.2.1
  have hag := D.2.2.2.1
  have hnext : pos + 1 < n ∧ (cP μ p).2 2 (pos + 1) = nI (codeL l') := (hnx.resolve_left (by decide)).resolve_left (by decide)
  obtain ⟨a, ha, rfl⟩ := hag.resolve_left (by decide)
  have ha : a ≤ 3 := ha
  have hca : (nI a).toNatClampNeg = a := nI_clamp (by omega)
  rw [hca] at hty
  have hl : some (decide (2 ≤ a) :: tys ((cT μ t).2.1 8) d) = some l' := hty
  injection hl with hl
  subst hl
  have h6 : d < 6 := by
    have h7 : (tys ((cT μ t).2.1 8) d).length + 1 ≤ 6 := hlen
    rw [tys_len] at h7; omega
  have out := op_7 hC h6 ha
  rw [E8, E9, Er] at out
  exact step_fin (flag := 0) hi ht D es er hrr hs out (fun Q hq => ins_go ht D es (sw_7 hq)) (Or.inl ⟨rfl, rfl⟩) (fun _ => ⟨pos + 1, hnext.1, rfl, hnext.2⟩) (fun μr hr Q hq => perf_go ht D hr (fun h => absurd h (by decide)) (j56_go ht D es hr ⟨fun h => absurd h (by decide), fun _ _ => j99_p (by decide) hq, fun h => absurd h (by decide)⟩))
theorem step_8 {c t p pos n d s rr : Nat} {arg : Int32} {l' : List Bool} {μ : Mu} (hi : Inv c μ) (ht : t < 4) (D : Dat t p pos n d 8 arg l' μ) (es : (cT μ t).1 0 11 = nI s) (er : (cT μ t).1 0 10 = nI rr) (hrr : rr ≤ 3000) (hs : s < rr) : StepR c t μ := by
  obtain ⟨hC, eT, hRX⟩ := step_ctx hi ht D es er hrr hs
  have E8 : (cT (m11 μ t s pos) t).1 0 8 = nI p := by rw [eT]; exact D.2.1.1
  have E9 : (cT (m11 μ t s pos) t).1 0 9 = nI (pos + 1) := by rw [eT]; rfl
  have Er : (cT (m11 μ t s pos) t).2.1 = (cT μ t).2.1 := by rw [eT]; rfl
  have hty := D.2.2.2.2.1
  have hlen := D.2.2.2.2.2.1
  have hj := D.2.2.2.2.2.2.1
  have hnx := D.2.2.2.2.2.2.2.1
  have hag := D.2.2.2.1
  have hnext : pos + 1 < n ∧ (cP μ p).2 2 (pos + 1) = nI (codeL l') := (hnx.resolve_left (by decide)).resolve_left (by decide)
  obtain ⟨a, ha, rfl⟩ := hag.resolve_left (by decide)
  have ha : a ≤ 3 := ha
  have hca : (nI a).toNatClampNeg = a := nI_clamp (by omega)
  rw [hca] at hty
  have hl1 := ty_8 hty
  obtain ⟨e1, rfl, b1, t1⟩ := tcons hl1
  subst t1
  have out := op_8 hC ha (by rw [Er]; exact b1)
  rw [E8, E9, Er] at out
  exact step_fin (flag := 0) hi ht D es er hrr hs out (fun Q hq => ins_go ht D es (sw_8 hq)) (Or.inl ⟨rfl, rfl⟩) (fun _ => ⟨pos + 1, hnext.1, rfl, hnext.2⟩) (fun μr hr Q hq => perf_go ht D hr (fun h => absurd h (by decide)) (j56_go ht D es hr ⟨fun h => absurd h (by decide), fun _ _ => j99_p (by decide) hq, fun h => absurd h (by decide)⟩))
theorem step_9 {c t p pos n d s rr : Nat} {arg : Int32} {l' : List Bool} {μ : Mu} (hi : Inv c μ) (ht : t < 4) (D : Dat t p pos n d 9 arg l' μ) (es : (cT μ t).1 0 11 = nI s) (er : (cT μ t).1 0 10 = nI rr) (hrr : rr ≤ 3000) (hs : s < rr) : StepR c t μ := by
  obtain ⟨hC, eT, hRX⟩ := step_ctx hi ht D es er hrr hs
  have E8 : (cT (m11 μ t s pos) t).1 0 8 = nI p := by rw [eT]; exact D.2.1.1
  have E9 : (cT (m11 μ t s pos) t).1 0 9 = nI (pos + 1) := by rw [eT]; rfl
  have Er : (cT (m11 μ t s pos) t).2.1 = (cT μ t).2.1 := by rw [eT]; rfl
  have hty := D.2.2.2.2.1
  have hlen := D.2.2.2.2.2.1
  have hj := D.2.2.2.2.2.2.1
  have hnx := D.2.2.2.2.2.2.2.1
  have hag := D.2.2.2.1
  have hnext : pos + 1 < n ∧ (cP μ p).2 2 (pos + 1) = nI (codeL l') := (hnx.resolve_left (by decide)).resolve_left (by decide)
  obtain ⟨b, r, hl1, rfl⟩ := ty_9 hty
  obtain ⟨e1, rfl, b1, t1⟩ := tcons hl1
  subst t1
  have h6 : e1 + 1 < 6 := by
    have h7 : (tys ((cT μ t).2.1 8) e1).length + 1 + 1 ≤ 6 := hlen
    rw [tys_len] at h7; omega
  subst b1
  have out := op_9 (a := arg) hC h6
  rw [E8, E9, Er] at out
  exact step_fin (flag := 0) hi ht D es er hrr hs out (fun Q hq => ins_go ht D es (sw_9 hq)) (Or.inl ⟨rfl, rfl⟩) (fun _ => ⟨pos + 1, hnext.1, rfl, hnext.2⟩) (fun μr hr Q hq => perf_go ht D hr (fun h => absurd h (by decide)) (j56_go ht D es hr ⟨fun h => absurd h (by decide), fun _ _ => j99_p (by decide) hq, fun h => absurd h (by decide)⟩))
theorem step_10 {c t p pos n d s rr : Nat} {arg : Int32} {l' : List Bool} {μ : Mu} (hi : Inv c μ) (ht : t < 4) (D : Dat t p pos n d 10 arg l' μ) (es : (cT μ t).1 0 11 = nI s) (er : (cT μ t).1 0 10 = nI rr) (hrr : rr ≤ 3000) (hs : s < rr) : StepR c t μ := by
  obtain ⟨hC, eT, hRX⟩ := step_ctx hi ht D es er hrr hs
  have E8 : (cT (m11 μ t s pos) t).1 0 8 = nI p := by rw [eT]; exact D.2.1.1
  have E9 : (cT (m11 μ t s pos) t).1 0 9 = nI (pos + 1) := by rw [eT]; rfl
  have Er : (cT (m11 μ t s pos) t).2.1 = (cT μ t).2.1 := by rw [eT]; rfl
  have hty := D.2.2.2.2.1
  have hlen := D.2.2.2.2.2.1
  have hj := D.2.2.2.2.2.2.1
  have hnx := D.2.2.2.2.2.2.2.1
  have hag := D.2.2.2.1
  have hnext : pos + 1 < n ∧ (cP μ p).2 2 (pos + 1) = nI (codeL l') := (hnx.resolve_left (by decide)).resolve_left (by decide)
  obtain ⟨b, hl1⟩ := ty_10 hty
  obtain ⟨e1, rfl, b1, t1⟩ := tcons hl1
  subst t1
  have out := op_10 (a := arg) hC
  rw [E8, E9, Er] at out
  exact step_fin (flag := 0) hi ht D es er hrr hs out (fun Q hq => ins_go ht D es (sw_10 hq)) (Or.inl ⟨rfl, rfl⟩) (fun _ => ⟨pos + 1, hnext.1, rfl, hnext.2⟩) (fun μr hr Q hq => perf_go ht D hr (fun h => absurd h (by decide)) (j56_go ht D es hr ⟨fun h => absurd h (by decide), fun _ _ => j99_p (by decide) hq, fun h => absurd h (by decide)⟩))
theorem step_11 {c t p pos n d s rr : Nat} {arg : Int32} {l' : List Bool} {μ : Mu} (hi : Inv c μ) (ht : t < 4) (D : Dat t p pos n d 11 arg l' μ) (es : (cT μ t).1 0 11 = nI s) (er : (cT μ t).1 0 10 = nI rr) (hrr : rr ≤ 3000) (hs : s < rr) : StepR c t μ := by
  obtain ⟨hC, eT, hRX⟩ := step_ctx hi ht D es er hrr hs
  have E8 : (cT (m11 μ t s pos) t).1 0 8 = nI p := by rw [eT]; exact D.2.1.1
  have E9 : (cT (m11 μ t s pos) t).1 0 9 = nI (pos + 1) := by rw [eT]; rfl
  have Er : (cT (m11 μ t s pos) t).2.1 = (cT μ t).2.1 := by rw [eT]; rfl
  have hty := D.2.2.2.2.1
  have hlen := D.2.2.2.2.2.1
  have hj := D.2.2.2.2.2.2.1
  have hnx := D.2.2.2.2.2.2.2.1
  have hag := D.2.2.2.1
  have hnext : pos + 1 < n ∧ (cP μ p).2 2 (pos + 1) = nI (codeL l') := (hnx.resolve_left (by decide)).resolve_left (by decide)
  obtain ⟨r, hl1, rfl⟩ := ty_11 hty
  obtain ⟨e1, rfl, b1, t1⟩ := tcons hl1
  subst t1
  have out := op_11 (a := arg) hC (by rw [Er]; exact bz b1)
  rw [E8, E9, Er] at out
  exact step_fin (flag := 0) hi ht D es er hrr hs out (fun Q hq => ins_go ht D es (sw_11 hq)) (Or.inl ⟨rfl, rfl⟩) (fun _ => ⟨pos + 1, hnext.1, rfl, hnext.2⟩) (fun μr hr Q hq => perf_go ht D hr (fun h => absurd h (by decide)) (j56_go ht D es hr ⟨fun h => absurd h (by decide), fun _ _ => j99_c (by decide) hq, fun h => absurd h (by decide)⟩))
theorem step_12 {c t p pos n d s rr : Nat} {arg : Int32} {l' : List Bool} {μ : Mu} (hi : Inv c μ) (ht : t < 4) (D : Dat t p pos n d 12 arg l' μ) (es : (cT μ t).1 0 11 = nI s) (er : (cT μ t).1 0 10 = nI rr) (hrr : rr ≤ 3000) (hs : s < rr) : StepR c t μ := by
  obtain ⟨hC, eT, hRX⟩ := step_ctx hi ht D es er hrr hs
  have E8 : (cT (m11 μ t s pos) t).1 0 8 = nI p := by rw [eT]; exact D.2.1.1
  have E9 : (cT (m11 μ t s pos) t).1 0 9 = nI (pos + 1) := by rw [eT]; rfl
  have Er : (cT (m11 μ t s pos) t).2.1 = (cT μ t).2.1 := by rw [eT]; rfl
  have hty := D.2.2.2.2.1
  have hlen := D.2.2.2.2.2.1
  have hj := D.2.2.2.2.2.2.1
  have hnx := D.2.2.2.2.2.2.2.1
  have hag := D.2.2.2.1
  have hnext : pos + 1 < n ∧ (cP μ p).2 2 (pos + 1) = nI (codeL l') := (hnx.resolve_left (by decide)).resolve_left (by decide)
  obtain ⟨a, ha, rfl⟩ := hag.resolve_left (by decide)
  have ha : a ≤ 2 := ha
  have hca : (nI a).toNatClampNeg = a := nI_clamp (by omega)
  rw [hca] at hty
  obtain ⟨r, hl1, rfl⟩ := ty_12 hty
  obtain ⟨e1, rfl, b1, t1⟩ := tcons hl1
  subst t1
  have out := op_12 hC ha (by rw [Er]; exact bnz b1)
  rw [E8, E9, Er] at out
  exact step_fin (flag := 0) hi ht D es er hrr hs out (fun Q hq => ins_go ht D es (sw_12 hq)) (Or.inl ⟨rfl, rfl⟩) (fun _ => ⟨pos + 1, hnext.1, rfl, hnext.2⟩) (fun μr hr Q hq => perf_go ht D hr (fun h => absurd h (by decide)) (j56_go ht D es hr ⟨fun h => absurd h (by decide), fun _ _ => j99_c (by decide) hq, fun h => absurd h (by decide)⟩))
theorem step_13 {c t p pos n d s rr : Nat} {arg : Int32} {l' : List Bool} {μ : Mu} (hi : Inv c μ) (ht : t < 4) (D : Dat t p pos n d 13 arg l' μ) (es : (cT μ t).1 0 11 = nI s) (er : (cT μ t).1 0 10 = nI rr) (hrr : rr ≤ 3000) (hs : s < rr) : StepR c t μ := by
  obtain ⟨hC, eT, hRX⟩ := step_ctx hi ht D es er hrr hs
  have E8 : (cT (m11 μ t s pos) t).1 0 8 = nI p := by rw [eT]; exact D.2.1.1
  have E9 : (cT (m11 μ t s pos) t).1 0 9 = nI (pos + 1) := by rw [eT]; rfl
  have Er : (cT (m11 μ t s pos) t).2.1 = (cT μ t).2.1 := by rw [eT]; rfl
  have hty := D.2.2.2.2.1
  have hlen := D.2.2.2.2.2.1
  have hj := D.2.2.2.2.2.2.1
  have hnx := D.2.2.2.2.2.2.2.1
  have hag := D.2.2.2.1
  have hnext : pos + 1 < n ∧ (cP μ p).2 2 (pos + 1) = nI (codeL l') := (hnx.resolve_left (by decide)).resolve_left (by decide)
  obtain ⟨a, ha, rfl⟩ := hag.resolve_left (by decide)
  have ha : a ≤ 2 := ha
  have hca : (nI a).toNatClampNeg = a := nI_clamp (by omega)
  rw [hca] at hty
  have hl1 := ty_13 hty
  obtain ⟨e1, rfl, b1, t1⟩ := tcons hl1
  obtain ⟨e2, rfl, b2, t2⟩ := tcons t1
  subst t2
  have out := op_13 hC ha (by rw [Er]; exact b1) (by rw [Er]; exact bnz b2)
  rw [E8, E9, Er] at out
  exact step_fin (flag := 0) hi ht D es er hrr hs out (fun Q hq => ins_go ht D es (sw_13 hq)) (Or.inl ⟨rfl, rfl⟩) (fun _ => ⟨pos + 1, hnext.1, rfl, hnext.2⟩) (fun μr hr Q hq => perf_go ht D hr (fun h => absurd h (by decide)) (j56_go ht D es hr ⟨fun h => absurd h (by decide), fun _ _ => j99_c (by decide) hq, fun h => absurd h (by decide)⟩))
theorem step_14 {c t p pos n d s rr : Nat} {arg : Int32} {l' : List Bool} {μ : Mu} (hi : Inv c μ) (ht : t < 4) (D : Dat t p pos n d 14 arg l' μ) (es : (cT μ t).1 0 11 = nI s) (er : (cT μ t).1 0 10 = nI rr) (hrr : rr ≤ 3000) (hs : s < rr) : StepR c t μ := by
  obtain ⟨hC, eT, hRX⟩ := step_ctx hi ht D es er hrr hs
  have E8 : (cT (m11 μ t s pos) t).1 0 8 = nI p := by rw [eT]; exact D.2.1.1
  have E9 : (cT (m11 μ t s pos) t).1 0 9 = nI (pos + 1) := by rw [eT]; rfl
  have Er : (cT (m11 μ t s pos) t).2.1 = (cT μ t).2.1 := by rw [eT]; rfl
  have hty := D.2.2.2.2.1
  have hlen := D.2.2.2.2.2.1
  have hj := D.2.2.2.2.2.2.1
  have hnx := D.2.2.2.2.2.2.2.1
  have hag := D.2.2.2.1
  have hnext : pos + 1 < n ∧ (cP μ p).2 2 (pos + 1) = nI (codeL l') := (hnx.resolve_left (by decide)).resolve_left (by decide)
  obtain ⟨r, hl1, rfl⟩ := ty_14 hty
  obtain ⟨e1, rfl, b1, t1⟩ := tcons hl1
  obtain ⟨e2, rfl, b2, t2⟩ := tcons t1
  subst t2
  have out := op_14 (a := arg) hC (by rw [Er]; exact bnz b1) (by rw [Er]; exact bnz b2)
  rw [E8, E9, Er] at out
  exact step_fin (flag := 0) hi ht D es er hrr hs out (fun Q hq => ins_go ht D es (sw_14 hq)) (Or.inl ⟨rfl, rfl⟩) (fun _ => ⟨pos + 1, hnext.1, rfl, hnext.2⟩) (fun μr hr Q hq => perf_go ht D hr (fun h => absurd h (by decide)) (j56_go ht D es hr ⟨fun h => absurd h (by decide), fun _ _ => j99_p (by decide) hq, fun h => absurd h (by decide)⟩))
theorem step_15 {c t p pos n d s rr : Nat} {arg : Int32} {l' : List Bool} {μ : Mu} (hi : Inv c μ) (ht : t < 4) (D : Dat t p pos n d 15 arg l' μ) (es : (cT μ t).1 0 11 = nI s) (er : (cT μ t).1 0 10 = nI rr) (hrr : rr ≤ 3000) (hs : s < rr) : StepR c t μ := by
  obtain ⟨hC, eT, hRX⟩ := step_ctx hi ht D es er hrr hs
  have E8 : (cT (m11 μ t s pos) t).1 0 8 = nI p := by rw [eT]; exact D.2.1.1
  have E9 : (cT (m11 μ t s pos) t).1 0 9 = nI (pos + 1) := by rw [eT]; rfl
  have Er : (cT (m11 μ t s pos) t).2.1 = (cT μ t).2.1 := by rw [eT]; rfl
  have hty := D.2.2.2.2.1
  have hlen := D.2.2.2.2.2.1
  have hj := D.2.2.2.2.2.2.1
  have hnx := D.2.2.2.2.2.2.2.1
  have hag := D.2.2.2.1
  have hnext : pos + 1 < n ∧ (cP μ p).2 2 (pos + 1) = nI (codeL l') := (hnx.resolve_left (by decide)).resolve_left (by decide)
  have hl : some (true :: tys ((cT μ t).2.1 8) d) = some l' := hty
  injection hl with hl
  subst hl
  have h6 : d < 6 := by
    have h7 : (tys ((cT μ t).2.1 8) d).length + 1 ≤ 6 := hlen
    rw [tys_len] at h7; omega
  have out := op_15 (a := arg) hC h6
  rw [E8, E9, Er] at out
  exact step_fin (flag := 0) hi ht D es er hrr hs out (fun Q hq => ins_go ht D es (sw_15 hq)) (Or.inl ⟨rfl, rfl⟩) (fun _ => ⟨pos + 1, hnext.1, rfl, hnext.2⟩) (fun μr hr Q hq => perf_go ht D hr (fun h => absurd h (by decide)) (j56_go ht D es hr ⟨fun h => absurd h (by decide), fun _ _ => j99_p (by decide) hq, fun h => absurd h (by decide)⟩))
theorem step_16 {c t p pos n d s rr : Nat} {arg : Int32} {l' : List Bool} {μ : Mu} (hi : Inv c μ) (ht : t < 4) (D : Dat t p pos n d 16 arg l' μ) (es : (cT μ t).1 0 11 = nI s) (er : (cT μ t).1 0 10 = nI rr) (hrr : rr ≤ 3000) (hs : s < rr) : StepR c t μ := by
  obtain ⟨hC, eT, hRX⟩ := step_ctx hi ht D es er hrr hs
  have E8 : (cT (m11 μ t s pos) t).1 0 8 = nI p := by rw [eT]; exact D.2.1.1
  have E9 : (cT (m11 μ t s pos) t).1 0 9 = nI (pos + 1) := by rw [eT]; rfl
  have Er : (cT (m11 μ t s pos) t).2.1 = (cT μ t).2.1 := by rw [eT]; rfl
  have hty := D.2.2.2.2.1
  have hlen := D.2.2.2.2.2.1
  have hj := D.2.2.2.2.2.2.1
  have hnx := D.2.2.2.2.2.2.2.1
  have hag := D.2.2.2.1
  have hnext : pos + 1 < n ∧ (cP μ p).2 2 (pos + 1) = nI (codeL l') := (hnx.resolve_left (by decide)).resolve_left (by decide)
  obtain ⟨a, ha, rfl⟩ := hag.resolve_left (by decide)
  have ha : a ≤ 7 := ha
  have hca : (nI a).toNatClampNeg = a := nI_clamp (by omega)
  have hl : some (true :: tys ((cT μ t).2.1 8) d) = some l' := hty
  injection hl with hl
  subst hl
  have h6 : d < 6 := by
    have h7 : (tys ((cT μ t).2.1 8) d).length + 1 ≤ 6 := hlen
    rw [tys_len] at h7; omega
  have out := op_16 hC h6 ha
  rw [E8, E9, Er] at out
  exact step_fin (flag := 0) hi ht D es er hrr hs out (fun Q hq => ins_go ht D es (sw_16 hq)) (Or.inl ⟨rfl, rfl⟩) (fun _ => ⟨pos + 1, hnext.1, rfl, hnext.2⟩) (fun μr hr Q hq => perf_go ht D hr (fun h => absurd h (by decide)) (j56_go ht D es hr ⟨fun h => absurd h (by decide), fun _ _ => j99_p (by decide) hq, fun h => absurd h (by decide)⟩))
theorem step_17 {c t p pos n d s rr : Nat} {arg : Int32} {l' : List Bool} {μ : Mu} (hi : Inv c μ) (ht : t < 4) (D : Dat t p pos n d 17 arg l' μ) (es : (cT μ t).1 0 11 = nI s) (er : (cT μ t).1 0 10 = nI rr) (hrr : rr ≤ 3000) (hs : s < rr) : StepR c t μ := by
  obtain ⟨hC, eT, hRX⟩ := step_ctx hi ht D es er hrr hs
  have E8 : (cT (m11 μ t s pos) t).1 0 8 = nI p := by rw [eT]; exact D.2.1.1
  have E9 : (cT (m11 μ t s pos) t).1 0 9 = nI (pos + 1) := by rw [eT]; rfl
  have Er : (cT (m11 μ t s pos) t).2.1 = (cT μ t).2.1 := by rw [eT]; rfl
  have hty := D.2.2.2.2.1
  have hlen := D.2.2.2.2.2.1
  have hj := D.2.2.2.2.2.2.1
  have hnx := D.2.2.2.2.2.2.2.1
  have hag := D.2.2.2.1
  obtain ⟨a, ha, rfl⟩ := hag.resolve_left (by decide)
  have ha : a ≤ 23 := ha
  have hca : (nI a).toNatClampNeg = a := nI_clamp (by omega)
  rw [hca] at hj
  have hl : some (tys ((cT μ t).2.1 8) d) = some l' := hty
  injection hl with hl
  subst hl
  have out := op_17 (a := nI a) hC
  rw [E8, Er] at out
  exact step_fin (flag := 1) hi ht D es er hrr hs out (fun Q hq => ins_go ht D es (sw_17 hq)) (Or.inr ⟨by decide, rfl⟩) (fun _ => ⟨a, (hj (Or.inl rfl)).1, rfl, (hj (Or.inl rfl)).2⟩) (fun μr hr Q hq => perf_go ht D hr (fun h => absurd h (by decide)) (j56_go ht D es hr ⟨fun _ => j99_p (by decide) hq, fun h => absurd rfl h, fun h => absurd h (by decide)⟩))
theorem step_18 {c t p pos n d s rr : Nat} {arg : Int32} {l' : List Bool} {μ : Mu} (hi : Inv c μ) (ht : t < 4) (D : Dat t p pos n d 18 arg l' μ) (es : (cT μ t).1 0 11 = nI s) (er : (cT μ t).1 0 10 = nI rr) (hrr : rr ≤ 3000) (hs : s < rr) : StepR c t μ := by
  obtain ⟨hC, eT, hRX⟩ := step_ctx hi ht D es er hrr hs
  have E8 : (cT (m11 μ t s pos) t).1 0 8 = nI p := by rw [eT]; exact D.2.1.1
  have E9 : (cT (m11 μ t s pos) t).1 0 9 = nI (pos + 1) := by rw [eT]; rfl
  have Er : (cT (m11 μ t s pos) t).2.1 = (cT μ t).2.1 := by rw [eT]; rfl
  have hty := D.2.2.2.2.1
  have hlen := D.2.2.2.2.2.1
  have hj := D.2.2.2.2.2.2.1
  have hnx := D.2.2.2.2.2.2.2.1
  have hag := D.2.2.2.1
  have hnext : pos + 1 < n ∧ (cP μ p).2 2 (pos + 1) = nI (codeL l') := (hnx.resolve_left (by decide)).resolve_left (by decide)
  obtain ⟨a, ha, rfl⟩ := hag.resolve_left (by decide)
  have ha : a ≤ 23 := ha
  have hca : (nI a).toNatClampNeg = a := nI_clamp (by omega)
  rw [hca] at hj
  have hl1 := ty_18 (Or.inl rfl) hty
  obtain ⟨e1, rfl, b1, t1⟩ := tcons hl1
  subst t1
  have out := op_18 (a := nI a) hC
  rw [E8, E9, Er] at out
  have val : ∀ {μr : Mu} {Q : Int32 → Mu → Prop}, R2 μ μr → Q ((cT μ t).2.1 7 e1) (m9r μr t s) → wp_Mod_value (nI t) (0 : Int32) (m9r μr t s) Q := fun {μr Q} hr hq => value_ok (i := 0) ht (dep_r hC (hRX μr hr).1) (by omega) hC.2.2.2.2 (by
    rw [show e1 + 1 - 1 - 0 = e1 by omega, stk_r hC (hRX μr hr).1 (show e1 < e1 + 1 by omega), Er, if_pos (bz b1)]; exact hq)
  by_cases hz : (cT μ t).2.1 7 e1 = 0
  · rw [if_pos hz] at out
    exact step_fin (flag := 1) hi ht D es er hrr hs out (fun Q hq => ins_go ht D es (sw_18 hq)) (Or.inr ⟨by decide, rfl⟩) (fun _ => ⟨a, (hj (Or.inr rfl)).1, rfl, (hj (Or.inr rfl)).2⟩) (fun μr hr Q hq => perf_go ht D hr (fun h => absurd h (by decide)) (j56_go ht D es hr ⟨fun h => absurd h (by decide), fun _ h => absurd rfl h, fun _ => val hr ⟨fun h => absurd hz h, fun _ => j99_p (by decide) hq⟩⟩))
  · rw [if_neg hz] at out
    exact step_fin (flag := 0) hi ht D es er hrr hs out (fun Q hq => ins_go ht D es (sw_18 hq)) (Or.inl ⟨rfl, rfl⟩) (fun _ => ⟨pos + 1, hnext.1, rfl, hnext.2⟩) (fun μr hr Q hq => perf_go ht D hr (fun h => absurd h (by decide)) (j56_go ht D es hr ⟨fun h => absurd h (by decide), fun _ h => absurd rfl h, fun _ => val hr ⟨fun _ => j99_p (by decide) hq, fun h => absurd h hz⟩⟩))
theorem step_19 {c t p pos n d s rr : Nat} {arg : Int32} {l' : List Bool} {μ : Mu} (hi : Inv c μ) (ht : t < 4) (D : Dat t p pos n d 19 arg l' μ) (es : (cT μ t).1 0 11 = nI s) (er : (cT μ t).1 0 10 = nI rr) (hrr : rr ≤ 3000) (hs : s < rr) : StepR c t μ := by
  obtain ⟨hC, eT, hRX⟩ := step_ctx hi ht D es er hrr hs
  have E8 : (cT (m11 μ t s pos) t).1 0 8 = nI p := by rw [eT]; exact D.2.1.1
  have E9 : (cT (m11 μ t s pos) t).1 0 9 = nI (pos + 1) := by rw [eT]; rfl
  have Er : (cT (m11 μ t s pos) t).2.1 = (cT μ t).2.1 := by rw [eT]; rfl
  have hty := D.2.2.2.2.1
  have hlen := D.2.2.2.2.2.1
  have hj := D.2.2.2.2.2.2.1
  have hnx := D.2.2.2.2.2.2.2.1
  have hag := D.2.2.2.1
  have hnext : pos + 1 < n ∧ (cP μ p).2 2 (pos + 1) = nI (codeL l') := (hnx.resolve_left (by decide)).resolve_left (by decide)
  have hl1 := ty_18 (Or.inr rfl) hty
  obtain ⟨e1, rfl, b1, t1⟩ := tcons hl1
  subst t1
  have out := op_19 (a := arg) hC (by rw [Er]; exact bz b1)
  rw [E8, E9, Er] at out
  exact step_fin (flag := 0) hi ht D es er hrr hs out (fun Q hq => ins_go ht D es (sw_19 hq)) (Or.inl ⟨rfl, rfl⟩) (fun _ => ⟨pos + 1, hnext.1, rfl, hnext.2⟩) (fun μr hr Q hq => perf_go ht D hr (fun h => absurd h (by decide)) (j56_go ht D es hr ⟨fun h => absurd h (by decide), fun _ _ => j99_t (by decide) hq, fun h => absurd h (by decide)⟩))
theorem step_20 {c t p pos n d s rr : Nat} {arg : Int32} {l' : List Bool} {μ : Mu} (hi : Inv c μ) (ht : t < 4) (D : Dat t p pos n d 20 arg l' μ) (es : (cT μ t).1 0 11 = nI s) (er : (cT μ t).1 0 10 = nI rr) (hrr : rr ≤ 3000) (hs : s < rr) : StepR c t μ := by
  obtain ⟨hC, eT, hRX⟩ := step_ctx hi ht D es er hrr hs
  have E8 : (cT (m11 μ t s pos) t).1 0 8 = nI p := by rw [eT]; exact D.2.1.1
  have E9 : (cT (m11 μ t s pos) t).1 0 9 = nI (pos + 1) := by rw [eT]; rfl
  have Er : (cT (m11 μ t s pos) t).2.1 = (cT μ t).2.1 := by rw [eT]; rfl
  have hty := D.2.2.2.2.1
  have hlen := D.2.2.2.2.2.1
  have hj := D.2.2.2.2.2.2.1
  have hnx := D.2.2.2.2.2.2.2.1
  have hag := D.2.2.2.1
  have hnext : pos + 1 < n ∧ (cP μ p).2 2 (pos + 1) = nI (codeL l') := (hnx.resolve_left (by decide)).resolve_left (by decide)
  have hl : some (false :: tys ((cT μ t).2.1 8) d) = some l' := hty
  injection hl with hl
  subst hl
  have h6 : d < 6 := by
    have h7 : (tys ((cT μ t).2.1 8) d).length + 1 ≤ 6 := hlen
    rw [tys_len] at h7; omega
  have out := op_20 (a := arg) hC h6
  rw [E8, E9, Er] at out
  exact step_fin (flag := 0) hi ht D es er hrr hs out (fun Q hq => ins_go ht D es (sw_20 hq)) (Or.inl ⟨rfl, rfl⟩) (fun _ => ⟨pos + 1, hnext.1, rfl, hnext.2⟩) (fun μr hr Q hq => perf_go ht D hr (fun h => absurd h (by decide)) (j56_go ht D es hr ⟨fun h => absurd h (by decide), fun _ _ => j99_t (by decide) hq, fun h => absurd h (by decide)⟩))
theorem step_21 {c t p pos n d s rr : Nat} {arg : Int32} {l' : List Bool} {μ : Mu} (hi : Inv c μ) (ht : t < 4) (D : Dat t p pos n d 21 arg l' μ) (es : (cT μ t).1 0 11 = nI s) (er : (cT μ t).1 0 10 = nI rr) (hrr : rr ≤ 3000) (hs : s < rr) : StepR c t μ := by
  obtain ⟨hC, eT, hRX⟩ := step_ctx hi ht D es er hrr hs
  have E8 : (cT (m11 μ t s pos) t).1 0 8 = nI p := by rw [eT]; exact D.2.1.1
  have E9 : (cT (m11 μ t s pos) t).1 0 9 = nI (pos + 1) := by rw [eT]; rfl
  have Er : (cT (m11 μ t s pos) t).2.1 = (cT μ t).2.1 := by rw [eT]; rfl
  have hty := D.2.2.2.2.1
  have hlen := D.2.2.2.2.2.1
  have hj := D.2.2.2.2.2.2.1
  have hnx := D.2.2.2.2.2.2.2.1
  have hag := D.2.2.2.1
  have hnext : pos + 1 < n ∧ (cP μ p).2 2 (pos + 1) = nI (codeL l') := (hnx.resolve_left (by decide)).resolve_left (by decide)
  obtain ⟨a, ha, rfl⟩ := hag.resolve_left (by decide)
  have ha : a ≤ 3 := ha
  have hca : (nI a).toNatClampNeg = a := nI_clamp (by omega)
  obtain ⟨r, hl1, rfl⟩ := ty_21 hty
  obtain ⟨e1, rfl, b1, t1⟩ := tcons hl1
  subst t1
  have out := op_21 (k := a) hC (by omega) (by rw [Er]; exact bnz b1)
  rw [E8, E9, Er] at out
  exact step_fin (flag := 0) hi ht D es er hrr hs out (fun Q hq => ins_go ht D es (sw_21 hq)) (Or.inl ⟨rfl, rfl⟩) (fun _ => ⟨pos + 1, hnext.1, rfl, hnext.2⟩) (fun μr hr Q hq => perf_go ht D hr (fun h => absurd h (by decide)) (j56_go ht D es hr ⟨fun h => absurd h (by decide), fun _ _ => j99_t (by decide) hq, fun h => absurd h (by decide)⟩))
theorem step_22 {c t p pos n d s rr : Nat} {arg : Int32} {l' : List Bool} {μ : Mu} (hi : Inv c μ) (ht : t < 4) (D : Dat t p pos n d 22 arg l' μ) (es : (cT μ t).1 0 11 = nI s) (er : (cT μ t).1 0 10 = nI rr) (hrr : rr ≤ 3000) (hs : s < rr) (hw : ¬ (cT μ t).1 10 1 = 0) : StepR c t μ := by
  obtain ⟨hC, eT, hRX⟩ := step_ctx hi ht D es er hrr hs
  have E8 : (cT (m11 μ t s pos) t).1 0 8 = nI p := by rw [eT]; exact D.2.1.1
  have E9 : (cT (m11 μ t s pos) t).1 0 9 = nI (pos + 1) := by rw [eT]; rfl
  have Er : (cT (m11 μ t s pos) t).2.1 = (cT μ t).2.1 := by rw [eT]; rfl
  have hty := D.2.2.2.2.1
  have hlen := D.2.2.2.2.2.1
  have hj := D.2.2.2.2.2.2.1
  have hnx := D.2.2.2.2.2.2.2.1
  have hag := D.2.2.2.1
  have hnext : pos + 1 < n ∧ (cP μ p).2 2 (pos + 1) = nI (codeL l') := (hnx.resolve_left (by decide)).resolve_left (by decide)
  have hl : some (true :: tys ((cT μ t).2.1 8) d) = some l' := hty
  injection hl with hl
  subst hl
  have h6 : d < 6 := by
    have h7 : (tys ((cT μ t).2.1 8) d).length + 1 ≤ 6 := hlen
    rw [tys_len] at h7; omega
  have out := op_22 (a := arg) hC h6 (by rw [eT]; exact hw)
  rw [E8, E9, Er] at out
  exact step_fin (flag := 0) hi ht D es er hrr hs out (fun Q hq => ins_go ht D es (sw_22 hq)) (Or.inl ⟨rfl, rfl⟩) (fun _ => ⟨pos + 1, hnext.1, rfl, hnext.2⟩) (fun μr hr Q hq => perf_go ht D hr (fun _ => hw) (j56_go ht D es hr ⟨fun h => absurd h (by decide), fun _ _ => j99_t (by decide) hq, fun h => absurd h (by decide)⟩))
theorem step_23 {c t p pos n d s rr : Nat} {arg : Int32} {l' : List Bool} {μ : Mu} (hi : Inv c μ) (ht : t < 4) (D : Dat t p pos n d 23 arg l' μ) (es : (cT μ t).1 0 11 = nI s) (er : (cT μ t).1 0 10 = nI rr) (hrr : rr ≤ 3000) (hs : s < rr) : StepR c t μ := by
  obtain ⟨hC, eT, hRX⟩ := step_ctx hi ht D es er hrr hs
  have E8 : (cT (m11 μ t s pos) t).1 0 8 = nI p := by rw [eT]; exact D.2.1.1
  have E9 : (cT (m11 μ t s pos) t).1 0 9 = nI (pos + 1) := by rw [eT]; rfl
  have Er : (cT (m11 μ t s pos) t).2.1 = (cT μ t).2.1 := by rw [eT]; rfl
  have hty := D.2.2.2.2.1
  have hlen := D.2.2.2.2.2.1
  have hj := D.2.2.2.2.2.2.1
  have hnx := D.2.2.2.2.2.2.2.1
  have hag := D.2.2.2.1
  have hnext : pos + 1 < n ∧ (cP μ p).2 2 (pos + 1) = nI (codeL l') := (hnx.resolve_left (by decide)).resolve_left (by decide)
  obtain ⟨a, ha, rfl⟩ := hag.resolve_left (by decide)
  have ha : a ≤ 3 := ha
  have hca : (nI a).toNatClampNeg = a := nI_clamp (by omega)
  obtain ⟨r, hl1, rfl⟩ := ty_23 hty
  obtain ⟨e1, rfl, b1, t1⟩ := tcons hl1
  subst t1
  have out := op_23 (k := a) hC (by omega) (by rw [Er]; exact bz b1)
  rw [E8, E9, Er] at out
  exact step_fin (flag := 0) hi ht D es er hrr hs out (fun Q hq => ins_go ht D es (sw_23 hq)) (Or.inl ⟨rfl, rfl⟩) (fun _ => ⟨pos + 1, hnext.1, rfl, hnext.2⟩) (fun μr hr Q hq => perf_go ht D hr (fun h => absurd h (by decide)) (j56_go ht D es hr ⟨fun h => absurd h (by decide), fun _ _ => j99_t (by decide) hq, fun h => absurd h (by decide)⟩))
theorem step_24 {c t p pos n d s rr : Nat} {arg : Int32} {l' : List Bool} {μ : Mu} (hi : Inv c μ) (ht : t < 4) (D : Dat t p pos n d 24 arg l' μ) (es : (cT μ t).1 0 11 = nI s) (er : (cT μ t).1 0 10 = nI rr) (hrr : rr ≤ 3000) (hs : s < rr) : StepR c t μ := by
  obtain ⟨hC, eT, hRX⟩ := step_ctx hi ht D es er hrr hs
  have E8 : (cT (m11 μ t s pos) t).1 0 8 = nI p := by rw [eT]; exact D.2.1.1
  have E9 : (cT (m11 μ t s pos) t).1 0 9 = nI (pos + 1) := by rw [eT]; rfl
  have Er : (cT (m11 μ t s pos) t).2.1 = (cT μ t).2.1 := by rw [eT]; rfl
  have hty := D.2.2.2.2.1
  have hlen := D.2.2.2.2.2.1
  have hj := D.2.2.2.2.2.2.1
  have hnx := D.2.2.2.2.2.2.2.1
  have hag := D.2.2.2.1
  have hnext : pos + 1 < n ∧ (cP μ p).2 2 (pos + 1) = nI (codeL l') := (hnx.resolve_left (by decide)).resolve_left (by decide)
  obtain ⟨a, ha, rfl⟩ := hag.resolve_left (by decide)
  have ha : a ≤ 3 := ha
  have hca : (nI a).toNatClampNeg = a := nI_clamp (by omega)
  have hl : some (false :: tys ((cT μ t).2.1 8) d) = some l' := hty
  injection hl with hl
  subst hl
  have h6 : d < 6 := by
    have h7 : (tys ((cT μ t).2.1 8) d).length + 1 ≤ 6 := hlen
    rw [tys_len] at h7; omega
  have out := op_24 (k := a) hC h6 (by omega)
  rw [E8, E9, Er] at out
  exact step_fin (flag := 0) hi ht D es er hrr hs out (fun Q hq => ins_go ht D es (sw_24 hq)) (Or.inl ⟨rfl, rfl⟩) (fun _ => ⟨pos + 1, hnext.1, rfl, hnext.2⟩) (fun μr hr Q hq => perf_go ht D hr (fun h => absurd h (by decide)) (j56_go ht D es hr ⟨fun h => absurd h (by decide), fun _ _ => j99_t (by decide) hq, fun h => absurd h (by decide)⟩))
theorem step_all {c t : Nat} {μ : Mu} (hi : Inv c μ) (ht : t < 4) (hal : (cT μ t).1 0 7 = 1 ∨ (cT μ t).1 0 7 = 2) {s rr : Nat} (es : (cT μ t).1 0 11 = nI s) (er : (cT μ t).1 0 10 = nI rr) (hrr : rr ≤ 3000) (hs : s < rr) (hw : ∀ p pos n d arg l', Dat t p pos n d 22 arg l' μ → ¬ (cT μ t).1 10 1 = 0) : StepR c t μ := by
  obtain ⟨p, pos, n, d, op, arg, l', D⟩ := step_data hi ht hal
  have hop := D.1.2.2.2.2
  match op, hop, D with
  | 0, _, D => exact step_0 hi ht D es er hrr hs
  | 1, _, D => exact step_1 hi ht D es er hrr hs
  | 2, _, D => exact step_2 hi ht D es er hrr hs
  | 3, _, D => exact step_3 hi ht D es er hrr hs
  | 4, _, D => exact step_4 hi ht D es er hrr hs
  | 5, _, D => exact step_5 hi ht D es er hrr hs
  | 6, _, D => exact step_6 hi ht D es er hrr hs
  | 7, _, D => exact step_7 hi ht D es er hrr hs
  | 8, _, D => exact step_8 hi ht D es er hrr hs
  | 9, _, D => exact step_9 hi ht D es er hrr hs
  | 10, _, D => exact step_10 hi ht D es er hrr hs
  | 11, _, D => exact step_11 hi ht D es er hrr hs
  | 12, _, D => exact step_12 hi ht D es er hrr hs
  | 13, _, D => exact step_13 hi ht D es er hrr hs
  | 14, _, D => exact step_14 hi ht D es er hrr hs
  | 15, _, D => exact step_15 hi ht D es er hrr hs
  | 16, _, D => exact step_16 hi ht D es er hrr hs
  | 17, _, D => exact step_17 hi ht D es er hrr hs
  | 18, _, D => exact step_18 hi ht D es er hrr hs
  | 19, _, D => exact step_19 hi ht D es er hrr hs
  | 20, _, D => exact step_20 hi ht D es er hrr hs
  | 21, _, D => exact step_21 hi ht D es er hrr hs
  | 22, _, D => exact step_22 hi ht D es er hrr hs (hw _ _ _ _ _ _ D)
  | 23, _, D => exact step_23 hi ht D es er hrr hs
  | 24, _, D => exact step_24 hi ht D es er hrr hs
  | o + 25, h, _ => exact absurd h (by omega)
