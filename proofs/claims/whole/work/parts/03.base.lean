/-! states, the environment that every contract asks for, and the rows that calls and returns are laid with -/
abbrev Fn : Type := Nat → Int32
theorem o_bind {α β : Type} {x : Option α} {k : α → Option β} {y : β} (h : x.bind k = some y) : ∃ z, x = some z ∧ k z = some y := by
  cases x with
  | none => cases h
  | some z => exact ⟨z, rfl, h⟩
def oF : Nat := 40000
def arms : Fn := fun j => match j with
  | 0 => 0
  | 1 => 7
  | 2 => 10
  | 3 => 7
  | 4 => 0
  | 5 => -7
  | 6 => -10
  | _ => -7
def wNq : List (String × Nat × MethodName) := [(RX3, 32, yX10_isPerson), (RX4, 22, yX10_at), (RX4, 26, yX10_put), (RX5, 49, yX10_isOf), (RX5, 53, yX10_at), (RX5, 73, yX10_copyRow), (RX6, 22, yX10_copyRow), (RX6, 26, yX10_put), (RX6, 30, yX10_at), (RX8, 26, yX10_at), (RX8, 65, yX10_put), (RX9, 37, yX10_copyRow), (RX9, 41, yX10_at), (RX9, 45, yX10_put)]
def wN (U : State) : Prop := (∀ q ∈ wNq, va_Nw (.methodLinkNest q.1 q.2.1 q.2.2 RX10) U) ∧ va_Nw (.fieldLinkNest RX5 70 RX9 "cars" "[I" RX10) U
def wT (A : Nat → Prop) (U : State) (H : Heap) : Prop := ∃ t : Nat, va_Z RX9 "ARMS" "[I" (.ref t) A U H ∧ va_T .int t 8 (fun j => .int (arms j)) A U H
def wE (A : Nat → Prop) (U : State) : Prop := wN U ∧ wT A U U.heap
theorem wN_warm {s U : State} (hW : s.WarmedH U.vm) (h : wN s) : wN U := ⟨fun q hq => va_Nw.warmM hW (h.1 q hq), va_Nw.warmF hW h.2⟩
theorem wT_call {A A' : Nat → Prop} {s U : State} {H : Heap} {locs : List Loc} (h : wT A s s.heap) (hS : va_S A s.heap H locs) (hF : ∀ q, A' q → A q) (hU : U.heap = H) (hW : s.WarmedH U.vm) : wT A' U U.heap := by
  obtain ⟨t, h1, h2⟩ := h
  rw [hU]
  exact ⟨t, (va_Z.moved hW.alike (h1.kept (fun a ha hn => hS.2.1 a ha hn))).narrow hF, (va_T.moved hW.alike (h2.kept (fun a ha hn => hS.2.1 a ha hn))).narrow hF⟩
abbrev wTy (cI cZ : ClassId) : List (ClassId × FieldType) := [(cI, .int), (cZ, .boolean)]
def wPr (D : va_G) (cI cZ : ClassId) (ws : va_W) (sz : Nat) (U : State) : Prop := U.heap.size = sz ∧ va_P D vwCl ws U.heap ∧ va_K D vwCl (wTy cI cZ) U ∧ va_D (fun _ => True) ws ∧ wE (va_A ws sz) U
def wPo (D : va_G) (cI cZ : ClassId) (A : Nat → Prop) (ws : va_W) (t : State) : Prop := va_P D vwCl ws t.heap ∧ va_K D vwCl (wTy cI cZ) t ∧ va_D A ws
theorem wPr_blind {D : va_G} {cI cZ : ClassId} {ws : va_W} {sz : Nat} {av : List Value} : FrameBlind (va_Pc av (wPr D cI cZ ws sz)) := by
  intro a U g mk h
  obtain ⟨h0, h1, h2, h3, h4, ⟨h5, h6⟩, t, h7, h8⟩ := h
  have hA : U.vm.Alike (U.calling g mk a).vm := Vm.Alike.refl U.vm
  exact ⟨h0, h1, h2, va_K.moved (u := U) (U := U.calling g mk a) hA h3, h4, ⟨fun q hq => va_Nw.same (u := U) (U := U.calling g mk a) rfl rfl (h5 q hq), va_Nw.same (u := U) (U := U.calling g mk a) rfl rfl h6⟩, t, va_Z.moved (u := U) (U := U.calling g mk a) hA h7, va_T.moved (u := U) (U := U.calling g mk a) hA h8⟩
/-- behind a call: the callee's cells out of w1, the rest as before -/
def zS (w1 : va_W) : va_W → List (Option Nat) → va_W
  | q :: ws, o :: sr => (match o with | none => q | some j => w1.getD j q) :: zS w1 ws sr
  | _, _ => []
theorem zS_get {w1 : va_W} : ∀ {ws : va_W} {sr : List (Option Nat)} {k : Nat} {x : Nat × va_E}, (zS w1 ws sr)[k]? = some x → ∃ q o, ws[k]? = some q ∧ sr[k]? = some o ∧ x = (match o with | none => q | some j => w1.getD j q)
  | [], _, k, x, h => by simp [zS] at h
  | q :: ws, [], k, x, h => by simp [zS] at h
  | q :: ws, o :: sr, 0, x, h => by
    simp only [zS, List.getElem?_cons_zero] at h
    exact ⟨q, o, rfl, rfl, (Option.some.inj h).symm⟩
  | q :: ws, o :: sr, k + 1, x, h => by
    simp only [zS, List.getElem?_cons_succ] at h
    obtain ⟨q', o', h1, h2, h3⟩ := zS_get h
    exact ⟨q', o', by simpa using h1, by simpa using h2, h3⟩
theorem k_sub {D : va_G} {ws wc : va_W} {H : Heap} (hP : va_P D vwCl ws H) (isC : List Nat) (hC : isC.map (fun i => ws[i]?) = wc.map some) : va_P D vwCl wc H := by
  intro k q hk
  have h1 : (isC.map (fun i => ws[i]?))[k]? = some (some q) := by rw [hC, List.getElem?_map, hk]; rfl
  rw [List.getElem?_map] at h1
  cases hi : isC[k]? with
  | none => rw [hi] at h1; cases h1
  | some i => rw [hi] at h1; exact hP i q (Option.some.inj h1)
theorem k_addr {A : Nat → Prop} {ws ws' : va_W} (hD : va_D A ws) (hAd : ws'.map Prod.fst = ws.map Prod.fst) : va_D A ws' := by
  have key : ∀ (k : Nat) (q : Nat × va_E), ws'[k]? = some q → ∃ q0, ws[k]? = some q0 ∧ q0.1 = q.1 := by
    intro k q hk
    have h1 : (ws'.map Prod.fst)[k]? = some q.1 := by rw [List.getElem?_map, hk]; rfl
    rw [hAd, List.getElem?_map] at h1
    cases hq : ws[k]? with
    | none => rw [hq] at h1; cases h1
    | some q0 => rw [hq] at h1; exact ⟨q0, rfl, Option.some.inj h1⟩
  refine ⟨fun i j p q hi hj hpq => ?_, fun k q hk => ?_⟩
  · obtain ⟨p0, h1, h2⟩ := key i p hi
    obtain ⟨q0, h3, h4⟩ := key j q hj
    exact hD.1 i j p0 q0 h1 h3 (h2.trans (hpq.trans h4.symm))
  · obtain ⟨q0, h1, h2⟩ := key k q hk
    rw [← h2]
    exact hD.2 k q0 h1
theorem k_join {A : Nat → Prop} {D : va_G} {ws wc w1 : va_W} {H H1 : Heap} (hP : va_P D vwCl ws H) (hD : va_D A ws) (isC : List Nat) (sr : List (Option Nat)) (n : Nat) (hC : isC.map (fun i => ws[i]?) = wc.map some) (hdis : ∀ i ∈ isC, sr[i]? ≠ some none) (hj : ∀ o ∈ sr, o = none ∨ o.getD 0 < n) (hn : w1.length = n) (hAd : (zS w1 ws sr).map Prod.fst = ws.map Prod.fst)
    (hk : ∀ q : Nat, q < H.size → ¬ va_A wc H.size q → H1[q]? = H[q]?) (hP1 : va_P D vwCl w1 H1) : va_P D vwCl (zS w1 ws sr) H1 ∧ va_D A (zS w1 ws sr) := by
  refine ⟨fun k x hx => ?_, k_addr hD hAd⟩
  obtain ⟨q, o, h1, h2, h3⟩ := zS_get hx
  cases o with
  | none =>
    have hxq : x = q := h3
    rw [hxq]
    have hl := (hP k q h1).lt
    refine (hP k q h1).kept (hk q.1 hl (fun h => ?_))
    rcases h with ⟨k2, e, h⟩ | h
    · have h4 : (isC.map (fun i => ws[i]?))[k2]? = some (some (q.1, e)) := by rw [hC, List.getElem?_map, h]; rfl
      rw [List.getElem?_map] at h4
      cases hi : isC[k2]? with
      | none => rw [hi] at h4; cases h4
      | some i =>
        rw [hi] at h4
        have hij := hD.1 i k (q.1, e) q (Option.some.inj h4) h1 rfl
        subst hij
        exact hdis i (List.mem_of_getElem? hi) h2
    · omega
  | some j =>
    have hjn : j < w1.length := by
      rcases hj (some j) (List.mem_of_getElem? h2) with h | h
      · cases h
      · rw [hn]; exact h
    have hx2 : x = w1[j] := by
      rw [h3]
      simp [List.getD, hjn]
    exact hP1 j x (by rw [hx2]; exact List.getElem?_eq_getElem hjn)
section KW
variable {p : Program} {l : Launch} {e : Env} {R : Room} {s : State} {m : MethodId} {args : Array Value} {below : List Frame} {meth : Method} {c : Code} {H : Heap} {locs : List Loc} {cells slots : Nat} {Q : State → Prop}
variable {pc : Nat} {ls : Array Slot} {rest st0 : List Value} {a : Array Value} {A : Nat → Prop} {ws wc : va_W} {D : va_G} {cI cZ : ClassId}
theorem k_pre (hK : va_K D vwCl (wTy cI cZ) s) (hP : va_P D vwCl ws H) (hD : va_D A ws) (hS : va_S A s.heap H locs) (hA : ∀ q, s.heap.size ≤ q → A q) (hE : wE A s) (isC : List Nat) (hn : va_nd isC = true) (hC : isC.map (fun i => ws[i]?) = wc.map some) (U : State) (hU : U.heap = H) (hW : s.WarmedH U.vm) : wPr D cI cZ wc H.size U := by
  refine ⟨by rw [hU], ?_, va_K.moved hW.alike hK, (hD.sub isC hn hC).weaken (fun _ _ _ _ => trivial), wN_warm hW hE.1, wT_call hE.2 hS (va_free hD hS hA isC hC) hU hW⟩
  rw [hU]
  exact k_sub hP isC hC
theorem k_preV (hK : va_K D vwCl (wTy cI cZ) s) (hP : va_P D vwCl ws H) (hD : va_D A ws) (hS : va_S A s.heap H locs) (hA : ∀ q, s.heap.size ≤ q → A q) (hE : wE A s) (isC : List Nat) (hn : va_nd isC = true) (hC : isC.map (fun i => ws[i]?) = wc.map some) {C : String} {T : u_T} {N ci : Nat} {b : Nat} {fs As : List Value} (hcl : vwCl[ci]? = some (C, T, N)) (h0 : wc[0]? = some (b, .inr (ci, fs))) : PreV s H C b (va_Pc (Value.ref b :: As) (wPr D cI cZ wc H.size)) As :=
  ⟨wPr_blind, va_recv hK (k_sub hP isC hC) (ci := ci) (q0 := 0) hcl h0, fun U hU hW => ⟨rfl, k_pre hK hP hD hS hA hE isC hn hC U hU hW⟩⟩
theorem k_preS (hK : va_K D vwCl (wTy cI cZ) s) (hP : va_P D vwCl ws H) (hD : va_D A ws) (hS : va_S A s.heap H locs) (hA : ∀ q, s.heap.size ≤ q → A q) (hE : wE A s) (isC : List Nat) (hn : va_nd isC = true) (hC : isC.map (fun i => ws[i]?) = wc.map some) {As : List Value} : PreS s H (va_Pc As (wPr D cI cZ wc H.size)) As :=
  ⟨wPr_blind, fun U hU hW => ⟨rfl, k_pre hK hP hD hS hA hE isC hn hC U hU hW⟩⟩
/-- the method that is handed the table ARMS -/
def wPrT (D : va_G) (cI cZ : ClassId) (tA : Nat) (ws : va_W) (sz : Nat) (U : State) : Prop := wPr D cI cZ ws sz U ∧ va_T .int tA 8 (fun j => .int (arms j)) (va_A ws sz) U U.heap
theorem wPrT_blind {D : va_G} {cI cZ : ClassId} {tA : Nat} {ws : va_W} {sz : Nat} {av : List Value} : FrameBlind (va_Pc av (wPrT D cI cZ tA ws sz)) := by
  intro a U g mk h
  obtain ⟨h0, h1, h2⟩ := h
  obtain ⟨h3, h4⟩ := wPr_blind (av := av) a U g mk ⟨h0, h1⟩
  exact ⟨h3, h4, va_T.moved (u := U) (U := U.calling g mk a) (Vm.Alike.refl U.vm) h2⟩
theorem k_preT (hK : va_K D vwCl (wTy cI cZ) s) (hP : va_P D vwCl ws H) (hD : va_D A ws) (hS : va_S A s.heap H locs) (hA : ∀ q, s.heap.size ≤ q → A q) (hE : wE A s) {tA : Nat} (hT : va_T .int tA 8 (fun j => .int (arms j)) A s s.heap) {As : List Value} : PreS s H (va_Pc As (wPrT D cI cZ tA ([] : va_W) H.size)) As := by
  refine ⟨wPrT_blind, fun U hU hW => ⟨rfl, k_pre hK hP hD hS hA hE [] rfl rfl U hU hW, ?_⟩⟩
  rw [hU]
  exact (va_T.moved hW.alike (hT.kept (fun a ha hn => hS.2.1 a ha hn))).narrow (va_free (wc := ([] : va_W)) hD hS hA [] rfl)
theorem k_calli {S : Type} {z : Int32 × S} {cf : S → va_W} (hr : va_Run p l e R s m args below meth c H locs cells slots 0 0 (F0 m pc ls st0) rest (va_Qi (fun (r : Int32) (v : S) => (r, v) = z) (fun v t => wPo D cI cZ (va_A wc H.size) (cf v) t) (va_A wc H.size) a) (va_A wc H.size))
    (hP : va_P D vwCl ws H) (hD : va_D A ws) (hS : va_S A s.heap H locs) (hA : ∀ q, s.heap.size ≤ q → A q) (isC : List Nat) (sr : List (Option Nat)) (n : Nat) (hC : isC.map (fun i => ws[i]?) = wc.map some) (hdis : ∀ i ∈ isC, sr[i]? ≠ some none) (hj : ∀ o ∈ sr, o = none ∨ o.getD 0 < n) (hn : (cf z.2).length = n) (hAd : (zS (cf z.2) ws sr).map Prod.fst = ws.map Prod.fst)
    (kk : ∀ (H : Heap) (locs : List Loc), va_P D vwCl (zS (cf z.2) ws sr) H → va_D A (zS (cf z.2) ws sr) → va_S A s.heap H locs → W p l e R s m args below meth c H locs cells slots Q (F0 m (pc + 3) ls (.int z.1 :: rest))) : W p l e R s m args below meth c H locs cells slots Q (F0 m pc ls st0) := by
  have hF := va_free hD hS hA isC hC
  refine va_calli hr hS (fun q _ h => hF q h) hF (fun r u t H1 locs1 ht hvm hw hB hz hk hS1 => ?_)
  subst hw
  obtain ⟨hP1, hK1, hD1⟩ := hB
  rw [ht] at hP1
  obtain ⟨h1, h2⟩ := k_join hP hD isC sr n hC hdis hj hn hAd hk hP1
  exact kk H1 locs1 h1 h2 hS1
theorem k_calll {S : Type} {z : Int64 × S} {cf : S → va_W} (hr : va_Run p l e R s m args below meth c H locs cells slots 0 0 (F0 m pc ls st0) rest (va_Ql (fun (r : Int64) (v : S) => (r, v) = z) (fun v t => wPo D cI cZ (va_A wc H.size) (cf v) t) (va_A wc H.size) a) (va_A wc H.size))
    (hP : va_P D vwCl ws H) (hD : va_D A ws) (hS : va_S A s.heap H locs) (hA : ∀ q, s.heap.size ≤ q → A q) (isC : List Nat) (sr : List (Option Nat)) (n : Nat) (hC : isC.map (fun i => ws[i]?) = wc.map some) (hdis : ∀ i ∈ isC, sr[i]? ≠ some none) (hj : ∀ o ∈ sr, o = none ∨ o.getD 0 < n) (hn : (cf z.2).length = n) (hAd : (zS (cf z.2) ws sr).map Prod.fst = ws.map Prod.fst)
    (kk : ∀ (H : Heap) (locs : List Loc), va_P D vwCl (zS (cf z.2) ws sr) H → va_D A (zS (cf z.2) ws sr) → va_S A s.heap H locs → W p l e R s m args below meth c H locs cells slots Q (F0 m (pc + 3) ls (.long z.1 :: rest))) : W p l e R s m args below meth c H locs cells slots Q (F0 m pc ls st0) := by
  have hF := va_free hD hS hA isC hC
  refine va_calll hr hS (fun q _ h => hF q h) hF (fun r u t H1 locs1 ht hvm hw hB hz hk hS1 => ?_)
  subst hw
  obtain ⟨hP1, hK1, hD1⟩ := hB
  rw [ht] at hP1
  obtain ⟨h1, h2⟩ := k_join hP hD isC sr n hC hdis hj hn hAd hk hP1
  exact kk H1 locs1 h1 h2 hS1
theorem k_callv {S : Type} {z : S} {cf : S → va_W} (hr : va_Run p l e R s m args below meth c H locs cells slots 0 0 (F0 m pc ls st0) rest (va_Qv (fun (v : S) => v = z) (fun v t => wPo D cI cZ (va_A wc H.size) (cf v) t) (va_A wc H.size) a) (va_A wc H.size))
    (hP : va_P D vwCl ws H) (hD : va_D A ws) (hS : va_S A s.heap H locs) (hA : ∀ q, s.heap.size ≤ q → A q) (isC : List Nat) (sr : List (Option Nat)) (n : Nat) (hC : isC.map (fun i => ws[i]?) = wc.map some) (hdis : ∀ i ∈ isC, sr[i]? ≠ some none) (hj : ∀ o ∈ sr, o = none ∨ o.getD 0 < n) (hn : (cf z).length = n) (hAd : (zS (cf z) ws sr).map Prod.fst = ws.map Prod.fst)
    (kk : ∀ (H : Heap) (locs : List Loc), va_P D vwCl (zS (cf z) ws sr) H → va_D A (zS (cf z) ws sr) → va_S A s.heap H locs → W p l e R s m args below meth c H locs cells slots Q (F0 m (pc + 3) ls rest)) : W p l e R s m args below meth c H locs cells slots Q (F0 m pc ls st0) := by
  have hF := va_free hD hS hA isC hC
  refine va_callv hr hS (fun q _ h => hF q h) hF (fun u t H1 locs1 ht hvm hw hB hz hk hS1 => ?_)
  subst hw
  obtain ⟨hP1, hK1, hD1⟩ := hB
  rw [ht] at hP1
  obtain ⟨h1, h2⟩ := k_join hP hD isC sr n hC hdis hj hn hAd hk hP1
  exact kk H1 locs1 h1 h2 hS1
/-- a call that answers a cell whose address is known -/
theorem k_callr {ra : Nat} {w1 : va_W} (hr : va_Run p l e R s m args below meth c H locs cells slots 0 0 (F0 m pc ls st0) rest (va_Qr (fun (_ : Unit) => True) (fun _ a t => a = ra ∧ wPo D cI cZ (va_A wc H.size) w1 t) (va_A wc H.size) a) (va_A wc H.size))
    (hP : va_P D vwCl ws H) (hD : va_D A ws) (hS : va_S A s.heap H locs) (hA : ∀ q, s.heap.size ≤ q → A q) (isC : List Nat) (sr : List (Option Nat)) (n : Nat) (hC : isC.map (fun i => ws[i]?) = wc.map some) (hdis : ∀ i ∈ isC, sr[i]? ≠ some none) (hj : ∀ o ∈ sr, o = none ∨ o.getD 0 < n) (hn : w1.length = n) (hAd : (zS w1 ws sr).map Prod.fst = ws.map Prod.fst)
    (kk : ∀ (H : Heap) (locs : List Loc), va_P D vwCl (zS w1 ws sr) H → va_D A (zS w1 ws sr) → va_S A s.heap H locs → W p l e R s m args below meth c H locs cells slots Q (F0 m (pc + 3) ls (.ref ra :: rest))) : W p l e R s m args below meth c H locs cells slots Q (F0 m pc ls st0) := by
  have hF := va_free hD hS hA isC hC
  refine va_callr hr hS (fun q _ h => hF q h) hF (fun u ra' t H1 locs1 ht hvm hw hB hz hk hS1 => ?_)
  obtain ⟨rfl, hP1, hK1, hD1⟩ := hB
  rw [ht] at hP1
  obtain ⟨h1, h2⟩ := k_join hP hD isC sr n hC hdis hj hn hAd hk hP1
  exact kk H1 locs1 h1 h2 hS1
variable {cc : ByteArray}
theorem k_iret {S : Type} {z : Int32 × S} {cf : S → va_W} {v : Int32} {u : S} (hx : p.tables.exec = Jvm.exec) (hb : c.code = cc) (hr : meth.sig.returnType = some .int) (hlocks : meth.locks = false) (hK : va_K D vwCl (wTy cI cZ) s) (hS : va_S A s.heap H locs) (eQ : Q = MQ below (va_Qi (fun (r : Int32) (v : S) => (r, v) = z) (fun v t => wPo D cI cZ A (cf v) t) A) args s 0 0 A) (hf : some (v, u) = some z) (hP : va_P D vwCl (cf u) H) (hD : va_D A (cf u)) (hdg : decode cc pc = .ok (.ireturn, 1)) : W p l e R s m args below meth c H locs 0 0 Q (F0 m pc ls [.int v]) := by
  subst eQ
  exact W.iret (v := v) hx hb hr (fun t ht hW => ⟨⟨v, u, rfl, Option.some.inj hf, by rw [ht]; exact hP, va_K.moved hW.alike hK, hD⟩, hS.F ht⟩) hS.2.2 hdg hlocks
theorem k_zret {S : Type} {z : Int32 × S} {cf : S → va_W} {v : Int32} {u : S} (hx : p.tables.exec = Jvm.exec) (hb : c.code = cc) (hr : meth.sig.returnType = some .boolean) (hlocks : meth.locks = false) (hK : va_K D vwCl (wTy cI cZ) s) (hS : va_S A s.heap H locs) (eQ : Q = MQ below (va_Qi (fun (r : Int32) (v : S) => (r, v) = z) (fun v t => wPo D cI cZ A (cf v) t) A) args s 0 0 A) (hz : v &&& 1 = v) (hf : some (v, u) = some z) (hP : va_P D vwCl (cf u) H) (hD : va_D A (cf u)) (hdg : decode cc pc = .ok (.ireturn, 1)) : W p l e R s m args below meth c H locs 0 0 Q (F0 m pc ls [.int v]) := by
  subst eQ
  exact W.zret (v := v) hx hb hr (show Value.int (v &&& 1) = .int v by rw [hz]) (fun t ht hW => ⟨⟨v, u, rfl, Option.some.inj hf, by rw [ht]; exact hP, va_K.moved hW.alike hK, hD⟩, hS.F ht⟩) hS.2.2 hdg hlocks
theorem k_lret {S : Type} {z : Int64 × S} {cf : S → va_W} {v : Int64} {u : S} (hx : p.tables.exec = Jvm.exec) (hb : c.code = cc) (hr : meth.sig.returnType = some .long) (hlocks : meth.locks = false) (hK : va_K D vwCl (wTy cI cZ) s) (hS : va_S A s.heap H locs) (eQ : Q = MQ below (va_Ql (fun (r : Int64) (v : S) => (r, v) = z) (fun v t => wPo D cI cZ A (cf v) t) A) args s 0 0 A) (hf : some (v, u) = some z) (hP : va_P D vwCl (cf u) H) (hD : va_D A (cf u)) (hdg : decode cc pc = .ok (.lreturn, 1)) : W p l e R s m args below meth c H locs 0 0 Q (F0 m pc ls [.long v]) := by
  subst eQ
  exact W.lret (v := v) hx hb hr (fun t ht hW => ⟨⟨v, u, rfl, Option.some.inj hf, by rw [ht]; exact hP, va_K.moved hW.alike hK, hD⟩, hS.F ht⟩) hS.2.2 hdg hlocks
theorem k_vret {S : Type} {z : S} {cf : S → va_W} {u : S} (hx : p.tables.exec = Jvm.exec) (hb : c.code = cc) (hr : meth.sig.returnType = none) (hlocks : meth.locks = false) (hK : va_K D vwCl (wTy cI cZ) s) (hS : va_S A s.heap H locs) (eQ : Q = MQ below (va_Qv (fun (v : S) => v = z) (fun v t => wPo D cI cZ A (cf v) t) A) args s 0 0 A) (hf : some u = some z) (hP : va_P D vwCl (cf u) H) (hD : va_D A (cf u)) (hdg : decode cc pc = .ok (.return_, 1)) : W p l e R s m args below meth c H locs 0 0 Q (F0 m pc ls []) := by
  subst eQ
  exact W.vret hx hb hr (fun t ht hW => ⟨⟨u, rfl, Option.some.inj hf, by rw [ht]; exact hP, va_K.moved hW.alike hK, hD⟩, hS.F ht⟩) hS.2.2 hdg hlocks
theorem k_aret {ra ra' : Nat} {w1 : va_W} {C : String} (hx : p.tables.exec = Jvm.exec) (hb : c.code = cc) (hr : meth.sig.returnType = some (.object C)) (hlocks : meth.locks = false) (hK : va_K D vwCl (wTy cI cZ) s) (hS : va_S A s.heap H locs) (eQ : Q = MQ below (va_Qr (fun (_ : Unit) => True) (fun _ a t => a = ra ∧ wPo D cI cZ A w1 t) A) args s 0 0 A) (hra : ra' = ra) (hP : va_P D vwCl w1 H) (hD : va_D A w1) (hdg : decode cc pc = .ok (.areturn, 1)) : W p l e R s m args below meth c H locs 0 0 Q (F0 m pc ls [.ref ra']) := by
  subst eQ
  exact W.aret (v := .ref ra') hx hb hr (Or.inl ⟨_, rfl⟩) (Or.inr ⟨_, rfl⟩) (fun t ht hW => ⟨⟨(), ra', rfl, trivial, hra, by rw [ht]; exact hP, va_K.moved hW.alike hK, hD⟩, hS.F ht⟩) hS.2.2 hdg hlocks
theorem k_zb {v : Int32} (h : v = 0 ∨ v = 1) : v &&& 1 = v := by
  rcases h with h | h <;> subst h <;> decide
end KW
/-- a method's entry -/
theorem k_enter {l : Launch} {y : MethodName} {ws ws' : List Cond} {rm : Room} {D : va_G} {cI cZ : ClassId} {wl : va_W} {sz : Nat} {av : List Value} {cc : ByteArray} {maxL : Nat} {ret : Option FieldType} {Qc : (Nat → Prop) → Array Value → State → Outcome → State → Prop} (hy : plainName y.cls = true) (hw : ws = Cond.code y cc maxL ret :: ws') (hln : (lg_sl av).length ≤ maxL)
    (body : ∀ (p : Program) (e : Env) (s : State) (m : MethodId) (below : List Frame) (meth : Method) (c : Code) (ls : Array Slot) (A : Nat → Prop) (Q : State → Prop) (H : Heap) (locs : List Loc), Q = MQ below (Qc A) av.toArray s 0 0 A → p.tables.exec = Jvm.exec → c.code = cc → meth.sig.returnType = ret → c.maxLocals = maxL → (∀ w ∈ ws, w.before av.toArray s = true) → s.vm.findClass y.cls = some m.cls → meth.locks = false → va_K D vwCl (wTy cI cZ) s → va_P D vwCl wl H → va_D A wl → va_S A s.heap H locs → (∀ q, s.heap.size ≤ q → A q) → wE A s → lv_has ls maxL (lv_args 0 av) →
      W p l e (headSpec ws rm).room s m av.toArray below meth c H locs 0 0 Q (F0 m 0 ls [])) : Met l y ws rm (va_Pc av (wPr D cI cZ wl sz)) (Qc (va_A wl sz)) 0 0 (va_A wl sz) := by
  refine Met.ofW (cc := cc) (maxL := maxL) (ret := ret) hy hw ?_
  intro p e s m args below meth c s₁ B hml hv
  obtain ⟨rfl, hsz, hP, hK, hD0, hE⟩ := hv
  subst hsz
  rw [lg_entry_eq]
  exact body p e s m below meth c _ _ _ _ _ rfl B.exec B.bytes B.returns hml (atoms_spec (ws := ws) B.pre) (findClass_of_methodNamed B.named) B.notSynchronized hK hP hD0.self va_S.rf (fun q h => Or.inr h) hE (lv_entry av hln)
theorem k_enterF {l : Launch} {y : MethodName} {ws ws' : List Cond} {rm : Room} {D : va_G} {cI cZ : ClassId} {wl : va_W} {sz : Nat} {av : List Value} {cc : ByteArray} {maxL : Nat} {ret : Option FieldType} {Qc : (Nat → Prop) → Array Value → State → Outcome → State → Prop} (hy : plainFor y = true) (hw : ws = Cond.code y cc maxL ret :: ws') (hln : (lg_sl av).length ≤ maxL)
    (body : ∀ (p : Program) (e : Env) (s : State) (m : MethodId) (below : List Frame) (meth : Method) (c : Code) (ls : Array Slot) (A : Nat → Prop) (Q : State → Prop) (H : Heap) (locs : List Loc), Q = MQ below (Qc A) av.toArray s 0 0 A → p.tables.exec = Jvm.exec → c.code = cc → meth.sig.returnType = ret → c.maxLocals = maxL → (∀ w ∈ ws, w.before av.toArray s = true) → s.vm.findClass y.cls = some m.cls → meth.locks = false → va_K D vwCl (wTy cI cZ) s → va_P D vwCl wl H → va_D A wl → va_S A s.heap H locs → (∀ q, s.heap.size ≤ q → A q) → wE A s → lv_has ls maxL (lv_args 0 av) →
      W p l e (headSpec ws rm).room s m av.toArray below meth c H locs 0 0 Q (F0 m 0 ls [])) : Met l y ws rm (va_Pc av (wPr D cI cZ wl sz)) (Qc (va_A wl sz)) 0 0 (va_A wl sz) := by
  refine va_MetF (cc := cc) (maxL := maxL) (ret := ret) hy hw ?_
  intro p e s m args below meth c s₁ B hml hv
  obtain ⟨rfl, hsz, hP, hK, hD0, hE⟩ := hv
  subst hsz
  rw [lg_entry_eq]
  exact body p e s m below meth c _ _ _ _ _ rfl B.exec B.bytes B.returns hml (atoms_spec (ws := ws) B.pre) (findClass_of_methodNamed B.named) B.notSynchronized hK hP hD0.self va_S.rf (fun q h => Or.inr h) hE (lv_entry av hln)
theorem k_enterT {l : Launch} {y : MethodName} {ws ws' : List Cond} {rm : Room} {D : va_G} {cI cZ : ClassId} {tA : Nat} {wl : va_W} {sz : Nat} {av : List Value} {cc : ByteArray} {maxL : Nat} {ret : Option FieldType} {Qc : (Nat → Prop) → Array Value → State → Outcome → State → Prop} (hy : plainName y.cls = true) (hw : ws = Cond.code y cc maxL ret :: ws') (hln : (lg_sl av).length ≤ maxL)
    (body : ∀ (p : Program) (e : Env) (s : State) (m : MethodId) (below : List Frame) (meth : Method) (c : Code) (ls : Array Slot) (A : Nat → Prop) (Q : State → Prop) (H : Heap) (locs : List Loc), Q = MQ below (Qc A) av.toArray s 0 0 A → p.tables.exec = Jvm.exec → c.code = cc → meth.sig.returnType = ret → c.maxLocals = maxL → (∀ w ∈ ws, w.before av.toArray s = true) → s.vm.findClass y.cls = some m.cls → meth.locks = false → va_K D vwCl (wTy cI cZ) s → va_P D vwCl wl H → va_D A wl → va_S A s.heap H locs → (∀ q, s.heap.size ≤ q → A q) → wE A s → lv_has ls maxL (lv_args 0 av) → va_T .int tA 8 (fun j => .int (arms j)) A s s.heap →
      W p l e (headSpec ws rm).room s m av.toArray below meth c H locs 0 0 Q (F0 m 0 ls [])) : Met l y ws rm (va_Pc av (wPrT D cI cZ tA wl sz)) (Qc (va_A wl sz)) 0 0 (va_A wl sz) := by
  refine Met.ofW (cc := cc) (maxL := maxL) (ret := ret) hy hw ?_
  intro p e s m args below meth c s₁ B hml hv
  obtain ⟨rfl, ⟨hsz, hP, hK, hD0, hE⟩, hT⟩ := hv
  subst hsz
  rw [lg_entry_eq]
  exact body p e s m below meth c _ _ _ _ _ rfl B.exec B.bytes B.returns hml (atoms_spec (ws := ws) B.pre) (findClass_of_methodNamed B.named) B.notSynchronized hK hP hD0.self va_S.rf (fun q h => Or.inr h) hE (lv_entry av hln) hT
theorem k_enterC {l : Launch} {y : MethodName} {ws ws' : List Cond} {rm : Room} {D : va_G} {cI cZ : ClassId} {wl : va_W} {sz mc ms : Nat} {av : List Value} {cc : ByteArray} {maxL : Nat} {ret : Option FieldType} {Qc : (Nat → Prop) → Array Value → State → Outcome → State → Prop} (hy : plainName y.cls = true) (hw : ws = Cond.code y cc maxL ret :: ws') (hln : (lg_sl av).length ≤ maxL)
    (body : ∀ (p : Program) (e : Env) (s : State) (m : MethodId) (below : List Frame) (meth : Method) (c : Code) (ls : Array Slot) (A : Nat → Prop) (Q : State → Prop) (H : Heap) (locs : List Loc), Q = MQ below (Qc A) av.toArray s mc ms A → p.tables.exec = Jvm.exec → c.code = cc → meth.sig.returnType = ret → c.maxLocals = maxL → (∀ w ∈ ws, w.before av.toArray s = true) → s.vm.findClass y.cls = some m.cls → meth.locks = false → va_K D vwCl (wTy cI cZ) s → va_P D vwCl wl H → va_D A wl → va_S A s.heap H locs → (∀ q, s.heap.size ≤ q → A q) → wE A s → lv_has ls maxL (lv_args 0 av) → meth.name = y.name →
      W p l e (headSpec ws rm).room s m av.toArray below meth c H locs 0 0 Q (F0 m 0 ls [])) : Met l y ws rm (va_Pc av (wPr D cI cZ wl sz)) (Qc (va_A wl sz)) mc ms (va_A wl sz) := by
  refine Met.ofW (cc := cc) (maxL := maxL) (ret := ret) hy hw ?_
  intro p e s m args below meth c s₁ B hml hv
  obtain ⟨rfl, hsz, hP, hK, hD0, hE⟩ := hv
  subst hsz
  rw [lg_entry_eq]
  exact body p e s m below meth c _ _ _ _ _ rfl B.exec B.bytes B.returns hml (atoms_spec (ws := ws) B.pre) (findClass_of_methodNamed B.named) B.notSynchronized hK hP hD0.self va_S.rf (fun q h => Or.inr h) hE (lv_entry av hln) (name_of_methodNamed B.named B.method).1
theorem k_sameArr {D : va_G} {cI cZ cA : ClassId} {s : State} (hK : va_K D vwCl (wTy cI cZ ++ [(cA, .int)]) s) : cA = cI := by
  have h1 : s.vm.findClass ("[" ++ FieldType.int.toString) = some cI := (hK.2 0 _ rfl).2
  have h2 : s.vm.findClass ("[" ++ FieldType.int.toString) = some cA := (hK.2 2 _ rfl).2
  exact Option.some.inj (h2.symm.trans h1)
theorem k_sameArrZ {D : va_G} {cI cZ cA : ClassId} {s : State} (hK : va_K D vwCl (wTy cI cZ ++ [(cA, .boolean)]) s) : cA = cZ := by
  have h1 : s.vm.findClass ("[" ++ FieldType.boolean.toString) = some cZ := (hK.2 1 _ rfl).2
  have h2 : s.vm.findClass ("[" ++ FieldType.boolean.toString) = some cA := (hK.2 2 _ rfl).2
  exact Option.some.inj (h2.symm.trans h1)
section KC
variable {p : Program} {l : Launch} {e : Env} {R : Room} {s : State} {m : MethodId} {args : Array Value} {below : List Frame} {meth : Method} {c : Code} {H : Heap} {locs : List Loc} {cells slots : Nat} {Q : State → Prop}
variable {pc : Nat} {ls : Array Slot} {rest st0 : List Value} {a : Array Value} {A : Nat → Prop} {ws wc : va_W} {D : va_G} {cI cZ : ClassId} {cc : ByteArray}
theorem k_newI (hx : p.tables.exec = Jvm.exec) (hb : c.code = cc) (harr : (Cond.arrayClass (newarray.typeOf .int)).before args s = true) (hK : va_K D vwCl (wTy cI cZ) s) (hP : va_P D vwCl ws H) (hD : va_D A ws) (hS : va_S A s.heap H locs) (hA : ∀ q, s.heap.size ≤ q → A q) {n : Int32} {N : Nat} (hn : ¬ n < 0) (hN : n.toNatClampNeg = N) (hbytes : N * componentBytes .int ≤ 536870912) (hcells : cells + 1 ≤ R.cells) (hslots : slots + N ≤ R.slots) (hdg : decode cc pc = .ok (.newarray .int, 2))
    (kk : ∀ (q : Nat) (H : Heap), va_P D vwCl (ws ++ [(q, .inl (cI, N, .inl (fun _ => 0)))]) H → va_D A (ws ++ [(q, .inl (cI, N, .inl (fun _ => 0)))]) → va_S A s.heap H locs → W p l e R s m args below meth c H locs (cells + 1) (slots + N) Q (F0 m (pc + 2) ls (.ref q :: rest))) : W p l e R s m args below meth c H locs cells slots Q (F0 m pc ls (.int n :: rest)) := by
  refine va_newa (atype := .int) (ty := .int) (a0 := (N, .inl (fun _ => 0))) hx hb harr rfl hK hP hD hS hA (fun cA => rfl) hn hN hbytes hcells hslots hdg (fun q cA H1 hK2 hP2 hD2 hS2 => ?_)
  have e := k_sameArr hK2
  subst e
  exact kk q H1 hP2 hD2 hS2
theorem k_newZ (hx : p.tables.exec = Jvm.exec) (hb : c.code = cc) (harr : (Cond.arrayClass (newarray.typeOf .boolean)).before args s = true) (hK : va_K D vwCl (wTy cI cZ) s) (hP : va_P D vwCl ws H) (hD : va_D A ws) (hS : va_S A s.heap H locs) (hA : ∀ q, s.heap.size ≤ q → A q) {n : Int32} {N : Nat} (hn : ¬ n < 0) (hN : n.toNatClampNeg = N) (hbytes : N * componentBytes .boolean ≤ 536870912) (hcells : cells + 1 ≤ R.cells) (hslots : slots + N ≤ R.slots) (hdg : decode cc pc = .ok (.newarray .boolean, 2))
    (kk : ∀ (q : Nat) (H : Heap), va_P D vwCl (ws ++ [(q, .inl (cZ, N, .inl (fun _ => 0)))]) H → va_D A (ws ++ [(q, .inl (cZ, N, .inl (fun _ => 0)))]) → va_S A s.heap H locs → W p l e R s m args below meth c H locs (cells + 1) (slots + N) Q (F0 m (pc + 2) ls (.ref q :: rest))) : W p l e R s m args below meth c H locs cells slots Q (F0 m pc ls (.int n :: rest)) := by
  refine va_newa (atype := .boolean) (ty := .boolean) (a0 := (N, .inl (fun _ => 0))) hx hb harr rfl hK hP hD hS hA (fun cA => rfl) hn hN hbytes hcells hslots hdg (fun q cA H1 hK2 hP2 hD2 hS2 => ?_)
  have e := k_sameArrZ hK2
  subst e
  exact kk q H1 hP2 hD2 hS2
theorem k_callC {T : Type} {z : T} {cf : T × (Nat → Nat) → va_W} {mc ms : Nat} (hr : va_Run p l e R s m args below meth c H locs cells slots mc ms (F0 m pc ls st0) rest (va_Qv (fun (v : T × (Nat → Nat)) => v.1 = z) (fun v t => wPo D cI cZ (va_A wc H.size) (cf v) t) (va_A wc H.size) a) (va_A wc H.size))
    (hP : va_P D vwCl ws H) (hD : va_D A ws) (hS : va_S A s.heap H locs) (hA : ∀ q, s.heap.size ≤ q → A q) (isC isR : List Nat) (wr : va_W) (hC : isC.map (fun i => ws[i]?) = wc.map some) (hR : isR.map (fun i => ws[i]?) = wr.map some) (hn : va_nd isR = true) (hdis : ∀ i ∈ isR, i ∉ isC)
    (kk : ∀ (ad : Nat → Nat) (H : Heap) (locs : List Loc), va_P D vwCl (wr ++ cf (z, ad)) H → va_D A (wr ++ cf (z, ad)) → va_S A s.heap H locs → W p l e R s m args below meth c H locs (cells + mc) (slots + ms) Q (F0 m (pc + 3) ls rest)) : W p l e R s m args below meth c H locs cells slots Q (F0 m pc ls st0) := by
  have hF := va_free hD hS hA isC hC
  refine va_callv hr hS (fun q _ h => hF q h) hF (fun u t H1 locs1 ht hvm hw hB hz hk hS1 => ?_)
  obtain ⟨t0, ad⟩ := u
  have e : t0 = z := hw
  subst e
  obtain ⟨hP1, hK1, hD1⟩ := hB
  rw [ht] at hP1
  obtain ⟨h1, h2⟩ := va_join hP hD isC isR hC hR hn hdis hk hF hP1 hD1
  exact kk ad H1 locs1 h1 h2 hS1
theorem k_vretC {T : Type} {z u : T} {ad : Nat → Nat} {cf : T × (Nat → Nat) → va_W} (hx : p.tables.exec = Jvm.exec) (hb : c.code = cc) (hr : meth.sig.returnType = none) (hlocks : meth.locks = false) (hK : va_K D vwCl (wTy cI cZ) s) (hS : va_S A s.heap H locs) (eQ : Q = MQ below (va_Qv (fun (v : T × (Nat → Nat)) => v.1 = z) (fun v t => wPo D cI cZ A (cf v) t) A) args s cells slots A) (hf : some u = some z) (hP : va_P D vwCl (cf (u, ad)) H) (hD : va_D A (cf (u, ad))) (hdg : decode cc pc = .ok (.return_, 1)) : W p l e R s m args below meth c H locs cells slots Q (F0 m pc ls []) := by
  subst eQ
  exact W.vret hx hb hr (fun t ht hW => ⟨⟨(u, ad), rfl, Option.some.inj hf, by rw [ht]; exact hP, va_K.moved hW.alike hK, hD⟩, hS.F ht⟩) hS.2.2 hdg hlocks
end KC
abbrev sW : Type := Fn × Fn × Fn × Fn × Int32 × Int32
abbrev W_weights (u : sW) : Fn := u.1
abbrev W_cars (u : sW) : Fn := u.2.1
abbrev W_riders (u : sW) : Fn := u.2.2.1
abbrev W_loads (u : sW) : Fn := u.2.2.2.1
abbrev W_lowest (u : sW) : Int32 := u.2.2.2.2.1
abbrev W_friction (u : sW) : Int32 := u.2.2.2.2.2
abbrev ceW (cI cZ : ClassId) (a0 a1 a2 a3 a4 : Nat) (u : sW) : va_W := (a0, .inr (6, [.ref a1, .ref a2, .ref a3, .ref a4, .int (W_lowest u), .int (W_friction u)])) :: [(a1, .inl (cI, 8, .inl (W_weights u))), (a2, .inl (cI, 8, .inl (W_cars u))), (a3, .inl (cI, 8, .inl (W_riders u))), (a4, .inl (cI, 8, .inl (W_loads u)))]
abbrev sP : Type := Fn × Int32 × Int32
abbrev P_signs (u : sP) : Fn := u.1
abbrev P_length (u : sP) : Int32 := u.2.1
abbrev P_asked (u : sP) : Int32 := u.2.2
abbrev ceP (cI cZ : ClassId) (a0 a1 : Nat) (u : sP) : va_W := (a0, .inr (1, [.ref a1, .int (P_length u), .int (P_asked u)])) :: [(a1, .inl (cI, 60, .inl (P_signs u)))]
abbrev sS : Type := Fn × Fn × Int32
abbrev S_people (u : sS) : Fn := u.1
abbrev S_cars (u : sS) : Fn := u.2.1
abbrev S_count (u : sS) : Int32 := u.2.2
abbrev ceS (cI cZ : ClassId) (a0 a1 a2 : Nat) (u : sS) : va_W := (a0, .inr (3, [.ref a1, .ref a2, .int (S_count u)])) :: [(a1, .inl (cI, 6, .inl (S_people u))), (a2, .inl (cI, 6, .inl (S_cars u)))]
abbrev sT : Type := sW × Int32 × Int32 × Int32 × Int32 × Int32 × Int32
abbrev T_wheel (u : sT) : sW := u.1
abbrev T_failedEvent (u : sT) : Int32 := u.2.1
abbrev T_reason (u : sT) : Int32 := u.2.2.1
abbrev T_turned (u : sT) : Int32 := u.2.2.2.1
abbrev T_filling (u : sT) : Int32 := u.2.2.2.2.1
abbrev T_asked (u : sT) : Int32 := u.2.2.2.2.2.1
abbrev T_askedBefore (u : sT) : Int32 := u.2.2.2.2.2.2
abbrev ceT (cI cZ : ClassId) (a0 a1 a2 a3 a4 a5 : Nat) (u : sT) : va_W := (a0, .inr (4, [.ref a1, .int (T_failedEvent u), .int (T_reason u), .int (T_turned u), .int (T_filling u), .int (T_asked u), .int (T_askedBefore u)])) :: (ceW cI cZ a1 a2 a3 a4 a5 (T_wheel u))
abbrev sG : Type := sW × Fn × Int32
abbrev G_wheel (u : sG) : sW := u.1
abbrev G_firstCars (u : sG) : Fn := u.2.1
abbrev G_found (u : sG) : Int32 := u.2.2
abbrev ceG (cI cZ : ClassId) (a0 a1 a2 a3 a4 a5 a6 : Nat) (u : sG) : va_W := (a0, .inr (2, [.ref a1, .ref a6, .int (G_found u)])) :: (ceW cI cZ a1 a2 a3 a4 a5 (G_wheel u) ++ [(a6, .inl (cI, 8, .inl (G_firstCars u)))])
abbrev sU : Type := sW × Fn × Int32
abbrev U_wheel (u : sU) : sW := u.1
abbrev U_timesLowest (u : sU) : Fn := u.2.1
abbrev U_turned (u : sU) : Int32 := u.2.2
abbrev ceU (cI cZ : ClassId) (a0 a1 a2 a3 a4 a5 a6 : Nat) (u : sU) : va_W := (a0, .inr (5, [.ref a1, .ref a6, .int (U_turned u)])) :: (ceW cI cZ a1 a2 a3 a4 a5 (U_wheel u) ++ [(a6, .inl (cI, 8, .inl (U_timesLowest u)))])
abbrev sI : Type := sW × sS × Int32
abbrev I_wheel (u : sI) : sW := u.1
abbrev I_sights (u : sI) : sS := u.2.1
abbrev I_kept (u : sI) : Int32 := u.2.2
abbrev ceI (cI cZ : ClassId) (a0 a1 a2 a3 a4 a5 a6 a7 a8 : Nat) (u : sI) : va_W := (a0, .inr (0, [.ref a1, .ref a6, .int (I_kept u)])) :: (ceW cI cZ a1 a2 a3 a4 a5 (I_wheel u) ++ ceS cI cZ a6 a7 a8 (I_sights u))
abbrev sM : Type := Fn × Fn × Fn × Int32 × Int32 × Int32 × Fn × Int32 × Fn × Int32 × Int32 × Int32 × Fn × Fn × Int32 × Fn × Fn
abbrev M_weight (u : sM) : Fn := u.1
abbrev M_sits (u : sM) : Fn := u.2.1
abbrev M_stones (u : sM) : Fn := u.2.2.1
abbrev M_at (u : sM) : Int32 := u.2.2.2.1
abbrev M_drag (u : sM) : Int32 := u.2.2.2.2.1
abbrev M_sights (u : sM) : Int32 := u.2.2.2.2.2.1
abbrev M_sight (u : sM) : Fn := u.2.2.2.2.2.2.1
abbrev M_signs (u : sM) : Int32 := u.2.2.2.2.2.2.2.1
abbrev M_pad (u : sM) : Fn := u.2.2.2.2.2.2.2.2.1
abbrev M_foot (u : sM) : Int32 := u.2.2.2.2.2.2.2.2.2.1
abbrev M_turned (u : sM) : Int32 := u.2.2.2.2.2.2.2.2.2.2.1
abbrev M_bothWays (u : sM) : Int32 := u.2.2.2.2.2.2.2.2.2.2.2.1
abbrev M_now (u : sM) : Fn := u.2.2.2.2.2.2.2.2.2.2.2.2.1
abbrev M_heap (u : sM) : Fn := u.2.2.2.2.2.2.2.2.2.2.2.2.2.1
abbrev M_reason (u : sM) : Int32 := u.2.2.2.2.2.2.2.2.2.2.2.2.2.2.1
abbrev M_image (u : sM) : Fn := u.2.2.2.2.2.2.2.2.2.2.2.2.2.2.2.1
abbrev M_isKept (u : sM) : Fn := u.2.2.2.2.2.2.2.2.2.2.2.2.2.2.2.2
abbrev ceM (cI cZ : ClassId) (a0 a1 a2 a3 a4 a5 a6 a7 a8 a9 : Nat) (u : sM) : va_W := (a0, .inr (8, [.ref a1, .ref a2, .ref a3, .int (M_at u), .int (M_drag u), .int (M_sights u), .ref a4, .int (M_signs u), .ref a5, .int (M_foot u), .int (M_turned u), .int (M_bothWays u), .ref a6, .ref a7, .int (M_reason u), .ref a8, .ref a9])) :: [(a1, .inl (cI, 8, .inl (M_weight u))), (a2, .inl (cI, 8, .inl (M_sits u))), (a3, .inl (cI, 8, .inl (M_stones u))), (a4, .inl (cI, 12, .inl (M_sight u))), (a5, .inl (cI, 60, .inl (M_pad u))), (a6, .inl (cI, 8, .inl (M_now u))), (a7, .inl (cI, 8, .inl (M_heap u))), (a8, .inl (cI, 80, .inl (M_image u))), (a9, .inl (cZ, 2, .inl (M_isKept u)))]
abbrev sX : Type := sW × sW × sP × sS × sT × sG × sU × sI × sI
abbrev ceX (a0 a1 a2 a3 a4 a5 a6 a7 a8 a9 : Nat) : va_W := [(a0, .inr (7, [.ref a1, .ref a2, .ref a3, .ref a4, .ref a5, .ref a6, .ref a7, .ref a8, .ref a9]))]
abbrev ceA (cI : ClassId) (a0 n : Nat) (f : Fn) : va_W := [(a0, .inl (cI, n, .inl f))]
