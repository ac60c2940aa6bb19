theorem made_u {a b c d : Nat} : ∀ (j' n : Nat), ([.inr a, .inr b, .inr c, .inr d, .inl 1, .inl 0, .inl 0] : List (Nat ⊕ Nat))[j']? = some (.inl (n + 1)) → j' = 4
  | 0, n, h => by simp at h
  | 1, n, h => by simp at h
  | 2, n, h => by simp at h
  | 3, n, h => by simp at h
  | 4, n, h => rfl
  | 5, n, h => by simp at h
  | 6, n, h => by simp at h
  | j + 7, n, h => by simp at h
theorem go_putM {E : Lx} {Y : Mt} {al : Bool} {R : Room} {cs ss pc : Nat} {L : List (Option Value)} {st : List Value} {μ : Mu} {Φ : Post} {t idx : Nat} {v : Int64} (ht : t < 4) (hF : FP Y.1 idx 0 4 .long) (d : decode Y.2.1 pc = .ok (.putfield idx, 3)) (kk : ∀ μ' : Mu, μ' = setJ μ (24 + 17 * t) v → Go E Y al R cs ss (pc + 3) L st (lay μ') Φ) : Go E Y al R cs ss pc L (.long v :: .ref (24 + 17 * t) :: st) (lay μ) Φ :=
  go_putJ (sh_heap ht) rfl made_u hF d (kk _ rfl)
/-- a constant index lies in an array -/
theorem in_c {i : Int32} {n : Nat} (h1 : ¬ i < 0) (h2 : i.toNatClampNeg < n) : vp_in i n := fun h => h.elim h1 (fun h3 => absurd h2 (Nat.not_lt.mpr h3))
/-- a contract of a method whose class has rows of its own elsewhere, none of them this method's -/
theorem met_ofF {l : Launch} {y : MethodName} {ws ws' : List Cond} {rm : Room} {Pc : Array Value → State → Prop} {Qc : Array Value → State → Outcome → State → Prop} {mc ms : Nat} {free : Addr → Prop} {cc : ByteArray} {maxL : Nat} {ret : Option FieldType}
    (hy : plainFor y = true) (hw : ws = Cond.code y cc maxL ret :: ws')
    (body : ∀ p e s m args below meth c s₁, BodyLoose p l y (headSpec ws rm) cc maxL ret e s m args below meth c s₁ → c.maxLocals = maxL → Pc args s →
      W p l e (headSpec ws rm).room s m args below meth c s.heap [] 0 0 (MQ below Qc args s mc ms free) (entryFrame m args maxL)) : Met l y ws rm Pc Qc mc ms free := by
  refine MetFree.of_bodySF (code := cc) (maxLocals := maxL) (ret := ret) hy ?_ ?_
  · intro args s m h hn
    obtain ⟨meth, c, h1, h2, h3, h4, h5, h6, -, -⟩ := Cond.code_spec hn (atoms_spec (ws := ws) h _ (by rw [hw]; exact List.mem_cons_self))
    exact ⟨meth, c, h1, h2, h3, h4, h5, h6⟩
  · intro p e s m args below meth c s₁ B hml hP _
    have hh0 : s₁.heap = s.heap := by rw [B.state]; rfl
    obtain ⟨t, a1, o, b1, b2, b3⟩ := body p e s m args below meth c s₁ B hml hP s₁ hh0 (Stand.of_body B)
    exact ⟨t, o, a1, b1, b2, ⟨b3.1, b3.2⟩⟩
set_option maxHeartbeats 4000000 in
theorem mets_ofF {E : Lx} {Y : Mt} {al : Bool} {rm : Room} {as : List Value} {M : List AE} {Φ : Post} {L : List (Option Value)} (hp : plainFor Y.1 = true) (hle : (eL as).length ≤ Y.2.2.1) (hL : eL as ++ List.replicate (Y.2.2.1 - (eL as).length) none = L) (g : Go E Y al rm 0 0 0 L [] M Φ) : Mets E Y al rm as M Φ := by
  intro D kc ad sz
  refine met_ofF (cc := Y.2.1) (maxL := Y.2.2.1) (ret := Y.2.2.2) hp rfl ?_
  intro p e s m args below meth c s₁ B hml hv
  obtain ⟨rfl, hsz, hW, hD0, hT, hN⟩ := hv
  subst hsz
  have hts := atoms_spec (ws := gws Y) B.pre
  have hown : s.vm.findClass Y.1.cls = some m.cls := findClass_of_methodNamed B.named
  have hr := B.returns
  have hlocks := B.notSynchronized
  have hl := lv_entry (as.map (gv ad)) (n := Y.2.2.1) (by rw [eL_len]; exact hle)
  rw [lg_entry_eq]
  have hl2 : lv_has (lg_sl (as.map (gv ad)) ++ List.replicate (Y.2.2.1 - (lg_sl (as.map (gv ad))).length) Slot.unset).toArray Y.2.2.1 (lp ad 0 L) := by
    rw [← hL, lp_eL]
    exact hl
  refine g p e s m _ below meth c D kc ad (va_A (gw kc ad 0 M) s.heap.size) s.heap [] _ _ ⟨⟨B.exec, B.bytes, hml, hr, hlocks, hown, fun w hw => hts w (List.mem_cons_of_mem _ (List.mem_filter.mpr hw)), hN, fun hin => (name_of_methodNamed B.named B.method).1.trans hin⟩, hW, hD0.self, va_S.rf, fun q h => Or.inr h, hT, hl2, Nat.zero_le _, Nat.zero_le _, ?_⟩
  intro r M' kc' ad' H' locs' cs' ss' pc' ls' hΦ hrt hln hag hW' hD' hS' hc hs
  refine W.widen hc hs ?_
  have hq : ∀ t : State, t.heap = H' → s.WarmedH t.vm → Qg Φ al D kc ad M s.heap.size (as.map (gv ad)).toArray s (.returned (r.map (gv ad'))) t := fun t ht hWt =>
    ⟨⟨r, M', kc', ad', rfl, hΦ, hln, hag, by rw [ht]; exact hW'.moved hWt.alike, hD'⟩, hS'.F ht⟩
  unfold RetOK at hrt
  split at hrt
  next h1 => exact W.vret B.exec B.bytes (hr.trans h1) hq hS'.2.2 hrt
  next h1 => exact W.iret B.exec B.bytes (hr.trans h1) hq hS'.2.2 hrt
  next h1 => exact W.zret B.exec B.bytes (hr.trans h1) hrt.1 hq hS'.2.2 hrt.2
  next h1 => exact W.lret B.exec B.bytes (hr.trans h1) hq hS'.2.2 hrt
  next h1 => exact W.aret B.exec B.bytes (hr.trans h1) (Or.inr ⟨_, rfl⟩) (Or.inr ⟨_, rfl⟩) hq hS'.2.2 hrt
  next => exact hrt.elim

