/-! year -/
theorem nI_xor (a b : Nat) : nI a ^^^ nI b = nI (a ^^^ b) := by
  apply Int32.toBitVec_inj.mp
  rw [Int32.toBitVec_xor]
  show BitVec.ofNat 32 a ^^^ BitVec.ofNat 32 b = BitVec.ofNat 32 (a ^^^ b)
  exact BitVec.ofNat_xor.symm
theorem flm_nn {a d : Nat} (ha : a < 2147483648) (h0 : 0 < d) (hd : d < 2147483648) : f_J9_floorMod_7cf53 (nI a) (nI d) = some (nI (a % d), ()) := by
  unfold f_J9_floorMod_7cf53
  rw [if_neg (nI_ne0 h0 (by omega)), nI_xor, if_pos (nI_pos' (Nat.xor_lt_two_pow (n := 31) (by omega) (by omega))), pk_rem (by omega) h0 (by omega)]
theorem aGo_c (a : aW) (w : Int) : ∀ n f, ∃ c : Nat, c ≤ n ∧ (aGo a w n f).1 = w * (c : Int)
  | 0, f => ⟨0, Nat.le_refl 0, by rw [aGo]; show (0 : Int) = w * 0; rw [Int.mul_zero]⟩
  | n + 1, f => by
    rw [aGo]
    by_cases c : w ≠ 0 ∧ wy (a_dg a) (aP a f) = w
    · obtain ⟨k, h1, h2⟩ := aGo_c a w n (tu f w)
      refine ⟨k + 1, by omega, ?_⟩
      rw [if_pos c]
      show (aGo a w n (tu f w)).1 + w = w * ((k : Int) + 1)
      rw [h2, Int.mul_add, Int.mul_one]
    · refine ⟨0, by omega, ?_⟩
      rw [if_neg c]
      show (0 : Int) = w * 0
      rw [Int.mul_zero]
theorem aBoth_abs (a : aW) : aBoth a = (if 0 ≤ (aLet a).1 then (aLet a).1 else -(aLet a).1) ∧ -8 ≤ (aLet a).1 ∧ (aLet a).1 ≤ 8 := by
  obtain ⟨c, h1, h2⟩ := aGo_c a (wy (a_dg a) (aP a (a_ft a))) 8 (a_ft a)
  unfold aBoth
  have h2 : (aLet a).1 = wy (a_dg a) (aP a (a_ft a)) * (c : Int) := h2
  rw [h2]
  rcases wy_cases (a_dg a) (aP a (a_ft a)) with h | h | h <;> rw [h]
  · rw [if_pos (by omega)]; omega
  · by_cases q : c = 0
    · rw [q, if_pos (by decide)]; decide
    · rw [if_neg (by omega)]; omega
  · simp only [Int.zero_mul]; decide
def aY1 (a : aW) (x : Nat) : aW := if x % 2 = 1 then a_seat a (a_ft a) 8 else a
def aY2 (a : aW) (x : Nat) : aW := if a_rd (aY1 a x) (a_ft a) = 8 ∧ cr (a_rd (aY1 a x)) (x / 2 % 8) = 8 then a_seat (aY1 a x) (a_ft a) (x / 2 % 8) else aY1 a x
def aY3 (a : aW) (x : Nat) : aW := if x / 16 % 3 = 0 then a_foot (aY2 a x) (tu (a_ft a) 1) else aY2 a x
def aY (a : aW) (x : Nat) : aW := a_foot (aY3 a x) (aLet (aY3 a x)).2
theorem aY1_f (a : aW) (x : Nat) : a_ft (aY1 a x) = a_ft a := by
  unfold aY1
  by_cases c : x % 2 = 1
  · rw [if_pos c]
  · rw [if_neg c]
theorem aY2_f (a : aW) (x : Nat) : a_ft (aY2 a x) = a_ft a := by
  unfold aY2
  by_cases c : a_rd (aY1 a x) (a_ft a) = 8 ∧ cr (a_rd (aY1 a x)) (x / 2 % 8) = 8
  · rw [if_pos c]; exact aY1_f a x
  · rw [if_neg c]; exact aY1_f a x
theorem aY1_ok {a : aW} (ha : okA a) (x : Nat) : okA (aY1 a x) := by
  unfold aY1
  by_cases c : x % 2 = 1
  · rw [if_pos c]; exact okA_un ha _
  · rw [if_neg c]; exact ha
theorem aY2_ok {a : aW} (ha : okA a) (x : Nat) : okA (aY2 a x) := by
  unfold aY2
  by_cases c : a_rd (aY1 a x) (a_ft a) = 8 ∧ cr (a_rd (aY1 a x)) (x / 2 % 8) = 8
  · rw [if_pos c]; exact okA_seat (aY1_ok ha x) (Nat.mod_lt _ (by decide)) (Or.inl c.2)
  · rw [if_neg c]; exact aY1_ok ha x
theorem aY3_ok {a : aW} (ha : okA a) (x : Nat) : okA (aY3 a x) := by
  unfold aY3
  by_cases c : x / 16 % 3 = 0
  · rw [if_pos c]; exact okA_foot (aY2_ok ha x) (tu_lt _ _)
  · rw [if_neg c]; exact aY2_ok ha x
theorem aY_ok {a : aW} (ha : okA a) (x : Nat) : okA (aY a x) := okA_foot (aY3_ok ha x) (aLet_lt (aY3_ok ha x))
theorem y_change {u : sU} {a : aW} (h : relW (U_wheel u) a) (ha : okA a) {x : Nat} (hx : x < 65537) : ∃ w', f_X8_change u (nI x) = some (w', U_timesLowest u, U_turned u) ∧ relW w' (aY2 a x) := by
  have hf : W_lowest (U_wheel u) = nI (a_ft a) := h.2.2.2.2.1
  have hp : nI x / (2 : Int32) - nI x / (2 : Int32) / (8 : Int32) * (8 : Int32) = nI (x / 2 % 8) := by
    rw [show nI x / (2 : Int32) = nI (x / 2) from pk_div (d := 2) (by omega) (by decide) (by decide), md8 (by omega)]
  have h2 : nI x - nI x / (2 : Int32) * (2 : Int32) = nI (x % 2) := pk_rem (d := 2) (by omega) (by decide) (by decide)
  have hp8 : x / 2 % 8 < 8 := Nat.mod_lt _ (by decide)
  have j23 : ∀ w1 : sW, relW w1 (aY1 a x) → ∃ w', f_X8_change_J23 (nI x) (nI (a_ft a)) (w1, U_timesLowest u, U_turned u) = some (w', U_timesLowest u, U_turned u) ∧ relW w' (aY2 a x) := by
    intro w1 h1
    have k1 := w_isTaken h1 (aY1_ok ha x)
    rw [aY1_f] at k1
    rw [f_X8_change_J23, hp]
    show ∃ w', (f_X9_isTaken w1).bind _ = _ ∧ _
    rw [k1, Option.bind_some]
    unfold aY2
    by_cases c1 : a_rd (aY1 a x) (a_ft a) = 8
    · rw [if_pos c1, i0]
      show ∃ w', (f_X9_isAboard w1 (nI (x / 2 % 8))).bind _ = _ ∧ _
      rw [w_isAboard h1 hp8, Option.bind_some]
      by_cases c2 : cr (a_rd (aY1 a x)) (x / 2 % 8) = 8
      · rw [if_pos c2, i0, if_pos ⟨c1, c2⟩]
        obtain ⟨w', d1, d2⟩ := w_seat h1 (aY1_ok ha x) hp8 ha.1 (Or.inl c2) (Or.inl c1)
        refine ⟨w', ?_, d2⟩
        show (f_X9_seat w1 (nI (x / 2 % 8)) (nI (a_ft a))).bind _ = _
        rw [d1]; rfl
      · rw [if_neg c2, i1, if_neg (fun q => c2 q.2)]
        exact ⟨w1, rfl, h1⟩
    · rw [if_neg c1, i1, if_neg (fun q => c1 q.1)]
      exact ⟨w1, rfl, h1⟩
  rw [f_X8_change, f_X9_lowest, Option.bind_some, h2, hf]
  by_cases c : x % 2 = 1
  · rw [if_pos (show nI (x % 2) = (1 : Int32) by rw [c]; rfl)]
    obtain ⟨w1, d1, d2⟩ := w_unseat h ha ha.1
    show ∃ w', (f_X9_unseat (U_wheel u) (nI (a_ft a))).bind _ = _ ∧ _
    rw [d1, Option.bind_some]
    exact j23 w1 (by unfold aY1; rw [if_pos c]; exact d2)
  · rw [if_neg (show ¬ nI (x % 2) = (1 : Int32) from fun q => c ((nI_eq (b := 1) (by omega) (by omega)).mp q))]
    exact j23 (U_wheel u) (by unfold aY1; rw [if_neg c]; exact h)
abbrev uK : Type := Int32 → Int32 → Int32 → sU → Option sU
theorem y_79 {w : sW} {K : uK} {v3 v4 v5 : Int32} {u : sU} {a : aW} (h : relW (U_wheel u) a) (ha : okA a) : ∃ u', f_X8_take_J79 w K v3 v4 v5 u = K v3 v4 (v5 + 1) u' ∧ relW (U_wheel u') (a_foot a (aLet a).2) ∧ U_turned u' = U_turned u + iI (aBoth a) ∧ ∀ c, c < 8 → U_timesLowest u' c = U_timesLowest u c + (if nI (aLet a).2 = nI c then 1 else 0) := by
  obtain ⟨w1, h1, h2⟩ := w_letGo h ha
  obtain ⟨b1, b2, b3⟩ := aBoth_abs a
  have hlt := aLet_lt ha
  have hf : W_lowest w1 = nI (aLet a).2 := h2.2.2.2.2.1
  refine ⟨(w1, upd (U_timesLowest u) (aLet a).2 (U_timesLowest u (aLet a).2 + 1), U_turned u + iI (aBoth a)), ?_, h2, rfl, fun c hc => ?_⟩
  · rw [f_X8_take_J79, h1, Option.bind_some, f_X9_lowest, Option.bind_some, Option.bind_some]
    show (f_X10_at 8 (U_timesLowest u) (W_lowest w1)).bind (fun z11 => (f_X10_put 8 (U_timesLowest u) (W_lowest w1) (z11.1 + (1 : Int32))).bind _) = _
    rw [hf, at_in _ hlt (by decide), Option.bind_some, put_in _ _ hlt (by decide), Option.bind_some]
    have e : (if 0 ≤ iI (aLet a).1 then iI (aLet a).1 else 0 - iI (aLet a).1) = iI (aBoth a) := by
      rw [b1, show (0 : Int32) = iI 0 from rfl]
      by_cases q : 0 ≤ (aLet a).1
      · rw [if_pos ((iI_le (by omega) (by omega) (by omega) (by omega)).mpr q), if_pos q]
      · rw [if_neg (fun z => q ((iI_le (by omega) (by omega) (by omega) (by omega)).mp z)), if_neg q, iI_sub]
        congr 1
        omega
    show K v3 v4 (v5 + 1) (w1, _, U_turned u + (if 0 ≤ iI (aLet a).1 then iI (aLet a).1 else 0 - iI (aLet a).1)) = _
    rw [e]
  · show upd (U_timesLowest u) (aLet a).2 (U_timesLowest u (aLet a).2 + 1) c = _
    rw [upd_at]
    by_cases q : c = (aLet a).2
    · rw [if_pos q, if_pos (by rw [q]), q]
    · rw [if_neg q, if_neg (fun z => q ((nI_eq (by omega) (by omega)).mp z).symm), Int32.add_zero]
theorem y_75 {x : Nat} (hx : x < 65537) : (75 : Int32) * nI x + (74 : Int32) = nI (75 * x + 74) := by
  rw [show (75 : Int32) * nI x = nI (75 * x) from pk_mul 75 x, show nI (75 * x) + (74 : Int32) = nI (75 * x + 74) from nI_add _ 74]
theorem y_16 {x : Nat} (hx : x < 65537) : nI x / (16 : Int32) - nI x / (16 : Int32) / (3 : Int32) * (3 : Int32) = nI (x / 16 % 3) := by
  rw [show nI x / (16 : Int32) = nI (x / 16) from pk_div (d := 16) (by omega) (by decide) (by decide), show nI (x / 16) - nI (x / 16) / (3 : Int32) * (3 : Int32) = nI (x / 16 % 3) from pk_rem (d := 3) (by omega) (by decide) (by decide)]
theorem y_step {w : sW} (n : Nat) {v3 v5 : Int32} {u : sU} {a : aW} (h : relW (U_wheel u) a) (ha : okA a) {x : Nat} (hx : x < 65537) (g1 : ¬ v3 ≤ v5) (g2 : ¬ (99 : Int32) ≤ v5) : ∃ u', f_X8_take_L27 w (n + 1) v3 (nI x) v5 u = f_X8_take_L27 w n v3 (nI ((75 * x + 74) % 65537)) (v5 + 1) u' ∧ relW (U_wheel u') (aY a ((75 * x + 74) % 65537)) ∧ U_turned u' = U_turned u + iI (aBoth (aY3 a ((75 * x + 74) % 65537))) ∧ ∀ c, c < 8 → U_timesLowest u' c = U_timesLowest u c + (if nI (a_ft (aY a ((75 * x + 74) % 65537))) = nI c then 1 else 0) := by
  have hy : (75 * x + 74) % 65537 < 65537 := Nat.mod_lt _ (by decide)
  rw [f_X8_take_L27, if_neg g1, if_neg g2, y_75 hx, show (65537 : Int32) = nI 65537 from rfl, flm_nn (by omega) (by decide) (by decide), Option.bind_some]
  generalize (75 * x + 74) % 65537 = y at hy ⊢
  obtain ⟨w2, d1, d2⟩ := y_change h ha hy
  show ∃ u', (f_X8_change u (nI y)).bind (fun z6 => (if (nI y / (16 : Int32) - nI y / (16 : Int32) / (3 : Int32) * (3 : Int32)) = 0 then _ else _)) = _ ∧ _
  rw [d1, Option.bind_some, y_16 hy]
  by_cases c : y / 16 % 3 = 0
  · obtain ⟨w3, d3, d4⟩ := w_turn d2 (aY2_ok ha y) (b := 1) (by omega) (by omega)
    have d3 : f_X9_turn w2 (1 : Int32) = some w3 := d3
    rw [aY2_f] at d4
    have e3 : aY3 a y = a_foot (aY2 a y) (tu (a_ft a) 1) := by unfold aY3; rw [if_pos c]
    rw [if_pos (show nI (y / 16 % 3) = (0 : Int32) by rw [c]; rfl)]
    show ∃ u', (f_X9_turn w2 (1 : Int32)).bind _ = _ ∧ _
    rw [d3, Option.bind_some]
    unfold aY
    rw [e3]
    exact y_79 (u := (w3, U_timesLowest u, U_turned u)) d4 (okA_foot (aY2_ok ha y) (tu_lt _ _))
  · have e3 : aY3 a y = aY2 a y := by unfold aY3; rw [if_neg c]
    rw [if_neg (show ¬ nI (y / 16 % 3) = (0 : Int32) from nI_ne0 (by omega) (by omega))]
    unfold aY
    rw [e3]
    exact y_79 (u := (w2, U_timesLowest u, U_turned u)) d2 (aY2_ok ha y)
/-! the same, by the reference -/
theorem xy_179 {K : fK} {v2 v3 v4 v5 v6 : Int32} {m : sM} {a : aW} {s : Nat} (h : relM (mFoot m (nI s)) a) (ha : okA a) : ∃ m', f_X11_year_J179 K v2 v3 v4 v5 v6 (nI s) m = (if nI (aLet a).2 = v3 then K v2 v3 v4 (v5 + 1) (v6 + 1) m' else K v2 v3 v4 (v5 + 0) (v6 + 1) m') ∧ pM m m' ∧ relM m' (a_foot a (aLet a).2) ∧ M_bothWays m' = M_bothWays m + iI (aBoth a) := by
  obtain ⟨m', h1, h2, h3, -, h5, -⟩ := x_letGo h ha
  have h1 : f_X11_letGo (M_weight m, M_sits m, M_stones m, M_at m, M_drag m, M_sights m, M_sight m, M_signs m, M_pad m, nI s, M_turned m, M_bothWays m, M_now m, M_heap m, M_reason m, M_image m, M_isKept m) = some m' := h1
  refine ⟨m', ?_, (p_f m _).tr h2, h3, h5⟩
  rw [f_X11_year_J179, h1, Option.bind_some, show M_foot m' = nI (aLet a).2 from h3.2.2.2.1]
theorem xy_151 {K : fK} {v2 v3 v5 v6 s2 : Int32} {m : sM} {a : aW} {x : Nat} (ha : okA a) (hx : x < 65537) (hf : M_foot m = nI (a_ft a)) (h : relM (mNow m (a_ft a) s2) (aY2 a x)) : ∃ m', f_X11_year_J151 K v2 v3 (nI x) v5 v6 (nI (a_ft a)) s2 m = (if nI (a_ft (aY a x)) = v3 then K v2 v3 (nI x) (v5 + 1) (v6 + 1) m' else K v2 v3 (nI x) (v5 + 0) (v6 + 1) m') ∧ pM m m' ∧ relM m' (aY a x) ∧ M_bothWays m' = M_bothWays m + iI (aBoth (aY3 a x)) := by
  have h8 := ha.1
  rw [f_X11_year_J151, if_neg (nI_ok ha.1 (by decide)), y_16 hx, nI_cl (show a_ft a < 2147483648 by omega), hf]
  by_cases c : x / 16 % 3 = 0
  · have e3 : aY3 a x = a_foot (aY2 a x) (tu (a_ft a) 1) := by unfold aY3; rw [if_pos c]
    have e4 : nI (a_ft a) + (1 : Int32) - (nI (a_ft a) + (1 : Int32)) / (8 : Int32) * (8 : Int32) = nI (tu (a_ft a) 1) := by
      rw [show nI (a_ft a) + (1 : Int32) = nI (a_ft a + 1) from nI_1 _, md8 (by omega)]
      congr 1
      try (unfold tu; omega)
    rw [if_pos (show nI (x / 16 % 3) = (0 : Int32) by rw [c]; rfl), e4]
    unfold aY
    rw [e3]
    obtain ⟨m', k1, k2, k3, k4⟩ := xy_179 (K := K) (v2 := v2) (v3 := v3) (v4 := nI x) (v5 := v5) (v6 := v6) (m := mNow m (a_ft a) s2) (mFoot_rel h (tu (a_ft a) 1)) (okA_foot (aY2_ok ha x) (tu_lt _ _))
    exact ⟨m', by rw [← k1, ← hf]; rfl, (mNow_p m _ _).tr k2, k3, k4⟩
  · have e3 : aY3 a x = aY2 a x := by unfold aY3; rw [if_neg c]
    rw [if_neg (show ¬ nI (x / 16 % 3) = (0 : Int32) from nI_ne0 (by omega) (by omega))]
    unfold aY
    rw [e3]
    have h' : relM (mFoot (mNow m (a_ft a) s2) (nI (a_ft a))) (aY2 a x) := ⟨h.1, h.2.1, h.2.2.1, by show nI (a_ft a) = nI (a_ft (aY2 a x)); rw [aY2_f], h.2.2.2.2⟩
    obtain ⟨m', k1, k2, k3, k4⟩ := xy_179 (K := K) (v2 := v2) (v3 := v3) (v4 := nI x) (v5 := v5) (v6 := v6) (m := mNow m (a_ft a) s2) h' (aY2_ok ha x)
    exact ⟨m', by rw [← k1, ← hf]; rfl, (mNow_p m _ _).tr k2, k3, k4⟩
theorem xy_142 {K : fK} {v2 v3 v5 v6 : Int32} {m : sM} {a : aW} {x : Nat} (ha : okA a) (hx : x < 65537) (hf : M_foot m = nI (a_ft a)) (h : relM m (aY2 a x)) : ∃ m', f_X11_year_J142 K v2 v3 (nI x) v5 v6 (nI (a_ft a)) m = (if nI (a_ft (aY a x)) = v3 then K v2 v3 (nI x) (v5 + 1) (v6 + 1) m' else K v2 v3 (nI x) (v5 + 0) (v6 + 1) m') ∧ pM m m' ∧ relM m' (aY a x) ∧ M_bothWays m' = M_bothWays m + iI (aBoth (aY3 a x)) := by
  have h8 := ha.1
  rw [f_X11_year_J142, hf, if_neg (nI_ok ha.1 (by decide)), nI_cl (show a_ft a < 2147483648 by omega)]
  exact xy_151 ha hx hf (now_same h ha.1)
theorem xy_98 {K : fK} {v2 v3 v5 v6 s2 : Int32} {m : sM} {a : aW} {x : Nat} (ha : okA a) (hx : x < 65537) (hf : M_foot m = nI (a_ft a)) (h : relM (mNow m (a_ft a) s2) (aY1 a x)) : ∃ m', f_X11_year_J98 K v2 v3 (nI x) v5 v6 (nI (a_ft a)) s2 m = (if nI (a_ft (aY a x)) = v3 then K v2 v3 (nI x) (v5 + 1) (v6 + 1) m' else K v2 v3 (nI x) (v5 + 0) (v6 + 1) m') ∧ pM m m' ∧ relM m' (aY a x) ∧ M_bothWays m' = M_bothWays m + iI (aBoth (aY3 a x)) := by
  have h8 := ha.1
  have h1 := aY1_ok ha x
  have hle := h1.2.2.2.2.1 (a_ft a) h8
  have hp : nI x / (2 : Int32) - nI x / (2 : Int32) / (8 : Int32) * (8 : Int32) = nI (x / 2 % 8) := by
    rw [show nI x / (2 : Int32) = nI (x / 2) from pk_div (d := 2) (by omega) (by decide) (by decide), md8 (by omega)]
  have hp8 : x / 2 % 8 < 8 := Nat.mod_lt _ (by decide)
  have hg : ¬ (nI (a_ft a) < 0 ∨ 8 ≤ (nI (a_ft a)).toNatClampNeg) := nI_ok ha.1 (by decide)
  have hn : upd (M_now m) (a_ft a) s2 (a_ft a) = enc (a_rd (aY1 a x) (a_ft a)) := h.2.1 _ h8
  rw [f_X11_year_J98, hf, if_neg hg, if_neg hg, hp, nI_cl (show a_ft a < 2147483648 by omega), hn]
  by_cases c1 : a_rd (aY1 a x) (a_ft a) = 8
  · have k1 := x_carOf h h1 hp8
    have k1 : f_X11_carOf (M_weight m, M_sits m, M_stones m, M_at m, M_drag m, M_sights m, M_sight m, M_signs m, M_pad m, M_foot m, M_turned m, M_bothWays m, upd (M_now m) (a_ft a) s2, M_heap m, M_reason m, M_image m, M_isKept m) (nI (x / 2 % 8)) = _ := k1
    rw [hf] at k1
    have hcr := cr_le (a_rd (aY1 a x)) (x / 2 % 8)
    rw [if_neg (fun q => (enc_ge hle).mp q c1), k1, Option.bind_some]
    show ∃ m', (if 0 ≤ enc (cr (a_rd (aY1 a x)) (x / 2 % 8)) then _ else _) = _ ∧ _
    by_cases c2 : cr (a_rd (aY1 a x)) (x / 2 % 8) = 8
    · rw [if_neg (fun q => (enc_ge hcr).mp q c2)]
      have e2 : aY2 a x = a_seat (aY1 a x) (a_ft a) (x / 2 % 8) := by unfold aY2; rw [if_pos ⟨c1, c2⟩]
      have h2 : relM (mNow (mNow m (a_ft a) s2) (a_ft a) (nI (x / 2 % 8))) (aY2 a x) := by
        rw [e2, ← enc_lt hp8]
        exact mNow_rel h _ _
      obtain ⟨m', q1, q2, q3, q4⟩ := xy_151 (K := K) (v2 := v2) (v3 := v3) (v5 := v5) (v6 := v6) (m := mNow m (a_ft a) s2) ha hx hf h2
      exact ⟨m', by rw [← q1, ← hf]; rfl, (mNow_p m _ _).tr q2, q3, q4⟩
    · rw [if_pos ((enc_ge hcr).mpr c2)]
      have e2 : aY2 a x = aY1 a x := by unfold aY2; rw [if_neg (fun q => c2 q.2)]
      obtain ⟨m', q1, q2, q3, q4⟩ := xy_142 (K := K) (v2 := v2) (v3 := v3) (v5 := v5) (v6 := v6) (m := mNow m (a_ft a) s2) ha hx hf (by rw [e2]; exact h)
      exact ⟨m', by rw [← q1, ← hf]; rfl, (mNow_p m _ _).tr q2, q3, q4⟩
  · rw [if_pos ((enc_ge hle).mpr c1)]
    have e2 : aY2 a x = aY1 a x := by unfold aY2; rw [if_neg (fun q => c1 q.1)]
    obtain ⟨m', q1, q2, q3, q4⟩ := xy_142 (K := K) (v2 := v2) (v3 := v3) (v5 := v5) (v6 := v6) (m := mNow m (a_ft a) s2) ha hx hf (by rw [e2]; exact h)
    exact ⟨m', by rw [← q1, ← hf]; rfl, (mNow_p m _ _).tr q2, q3, q4⟩
theorem xy_step (n : Nat) {v2 v3 v5 v6 : Int32} {m : sM} {a : aW} (h : relM m a) (ha : okA a) {x : Nat} (hx : x < 65537) (g : ¬ v2 ≤ v6) : ∃ m', f_X11_year_L49 (n + 1) v2 v3 (nI x) v5 v6 m = (if nI (a_ft (aY a ((75 * x + 74) % 65537))) = v3 then f_X11_year_L49 n v2 v3 (nI ((75 * x + 74) % 65537)) (v5 + 1) (v6 + 1) m' else f_X11_year_L49 n v2 v3 (nI ((75 * x + 74) % 65537)) (v5 + 0) (v6 + 1) m') ∧ pM m m' ∧ relM m' (aY a ((75 * x + 74) % 65537)) ∧ M_bothWays m' = M_bothWays m + iI (aBoth (aY3 a ((75 * x + 74) % 65537))) := by
  have hy : (75 * x + 74) % 65537 < 65537 := Nat.mod_lt _ (by decide)
  have h8 := ha.1
  have hf : M_foot m = nI (a_ft a) := h.2.2.2.1
  rw [f_X11_year_L49, if_neg g, y_75 hx, show (65537 : Int32) = nI 65537 from rfl, pk_rem (by omega) (by decide) (by decide)]
  generalize (75 * x + 74) % 65537 = y at hy ⊢
  rw [show nI y - nI y / (2 : Int32) * (2 : Int32) = nI (y % 2) from pk_rem (d := 2) (by omega) (by decide) (by decide)]
  by_cases c : y % 2 = 1
  · rw [if_pos (show nI (y % 2) = (1 : Int32) by rw [c]; rfl), hf]
    refine xy_98 ha hy hf ?_
    unfold aY1
    rw [if_pos c, show (-6 : Int32) = enc 8 from rfl]
    exact mNow_rel h _ 8
  · rw [if_neg (show ¬ nI (y % 2) = (1 : Int32) from fun q => c ((nI_eq (b := 1) (by omega) (by omega)).mp q)), hf, if_neg (nI_ok ha.1 (by decide)), nI_cl (show a_ft a < 2147483648 by omega)]
    refine xy_98 ha hy hf ?_
    unfold aY1
    rw [if_neg c]
    exact now_same h ha.1
theorem year_L {w : sW} (v3 : Int32) {M : Nat} (hM : M ≤ 99) {m0 : sM} : ∀ (n k x : Nat) (v5 : Int32) (u : sU) (m : sM) (a : aW), k ≤ M → M - k < n → x < 65537 → okA a → relW (U_wheel u) a → relM m a → pM m0 m → U_turned u = M_bothWays m → (∀ c, c < 8 → v3 = nI c → U_timesLowest u c = v5) → ∃ u' v5' m', f_X8_take_L27 w n (nI M) (nI x) (nI k) u = some u' ∧ f_X11_year_L49 n (nI M) v3 (nI x) v5 (nI k) m = (if 0 ≤ v3 then some (v5', m') else some (M_bothWays m', m')) ∧ pM m0 m' ∧ U_turned u' = M_bothWays m' ∧ ∀ c, c < 8 → v3 = nI c → U_timesLowest u' c = v5' := by
  intro n
  induction n with
  | zero => intro k x v5 u m a _ h; omega
  | succ n ih =>
    intro k x v5 u m a hk hn hx ha hw hm hpm ht hc
    by_cases e : k = M
    · have g : nI M ≤ nI k := nI_le (by omega) (by omega)
      refine ⟨u, v5, m, ?_, ?_, hpm, ht, hc⟩
      · rw [f_X8_take_L27, if_pos g]
      · rw [f_X11_year_L49, if_pos g]
    · have g : ¬ nI M ≤ nI k := nI_ge (by omega) (by omega)
      obtain ⟨u', h1, h2, h3, h4⟩ := y_step (w := w) n hw ha hx g (show ¬ (99 : Int32) ≤ nI k from nI_ge (b := 99) (by omega) (by decide))
      obtain ⟨m', h5, h6, h7, h8⟩ := xy_step n (v3 := v3) (v5 := v5) hm ha hx g
      rw [h1, h5, show nI k + (1 : Int32) = nI (k + 1) from nI_1 k]
      have hy : (75 * x + 74) % 65537 < 65537 := Nat.mod_lt _ (by decide)
      have hf8 := (aY_ok ha ((75 * x + 74) % 65537)).1
      by_cases c : nI (a_ft (aY a ((75 * x + 74) % 65537))) = v3
      · rw [if_pos c]
        refine ih (k + 1) _ (v5 + 1) u' m' _ (by omega) (by omega) hy (aY_ok ha _) h2 h7 (hpm.tr h6) (by rw [h3, h8, ht]) (fun d hd hv => ?_)
        rw [h4 d hd, if_pos (c.trans hv), hc d hd hv]
      · rw [if_neg c]
        refine ih (k + 1) _ (v5 + 0) u' m' _ (by omega) (by omega) hy (aY_ok ha _) h2 h7 (hpm.tr h6) (by rw [h3, h8, ht]) (fun d hd hv => ?_)
        rw [h4 d hd, if_neg (fun q => c (q.trans hv.symm)), hc d hd hv]
theorem c_year {w : sW} {u : sP} {v : sS} {j1 j2 : sI} {m : sM} (I : Inv w u v j1 j2 m) (t : sU) (s x c : Int32) : ∃ r t' m', f_X10_year w t s x c = some (r, t') ∧ f_X11_year m s x c = some (r, m') ∧ Inv w u v j1 j2 m' := by
  obtain ⟨⟨a, ha, hw, h0⟩, ⟨len, sg, hP⟩, hS, hI1, hI2⟩ := id I
  have ho := oF_ge
  have main : (c = -1 ∨ ∃ d, d < 8 ∧ c = nI d) → ∃ r t' m', f_X10_year_J14 w s x c t = some (r, t') ∧ ((f_X11_in s (0 : Int32) (9999 : Int32)).bind fun z3 => (if z3.1 = 0 then some ((-2 : Int32), m) else (f_X11_in x (1 : Int32) (99 : Int32)).bind fun z5 => (if z5.1 = 0 then some ((-2 : Int32), m) else (f_X11_asNow m).bind fun z7 => f_X11_year_L49 oF x c s (0 : Int32) (0 : Int32) z7))) = some (r, m') ∧ Inv w u v j1 j2 m' := by
    intro hc
    rw [f_X10_year_J14]
    rcases rng s (lo := 0) (hi := 9999) 0 9999 rfl rfl (by omega) (by omega) with ⟨r1, r2⟩ | ⟨r1, r2, r4, r3⟩ | ⟨r1, r2, r4, r3, sd, hs1, hs2, rfl⟩
    · rw [if_pos r1, r2, Option.bind_some, i0]; exact ⟨_, _, _, rfl, rfl, I⟩
    · rw [if_neg r1, if_pos r4, r3, Option.bind_some, i0]; exact ⟨_, _, _, rfl, rfl, I⟩
    · rw [if_neg r1, if_neg r4, r3, Option.bind_some, i1]
      rcases rng x (lo := 1) (hi := 99) 1 99 rfl rfl (by omega) (by omega) with ⟨r1, r2⟩ | ⟨r1, r2, r4, r3⟩ | ⟨r1, r2, r4, r3, M, hM1, hM2, rfl⟩
      · rw [if_pos r1, r2, Option.bind_some, i0]; exact ⟨_, _, _, rfl, rfl, I⟩
      · rw [if_neg r1, if_neg r2, r3, Option.bind_some, i0]; exact ⟨_, _, _, rfl, rfl, I⟩
      · obtain ⟨m1, k1, k2, k3, k4, k5, -⟩ := x_asNow h0
        obtain ⟨w1, k6, k7⟩ := w_copyFrom hw (U_wheel t)
        obtain ⟨f, k8, k9⟩ := fill_n (N := 8) (by decide) 0 (U_timesLowest t)
        obtain ⟨u', v5', m', g1, g2, g3, g4, g5⟩ := year_L (w := w) c hM2 (m0 := m) oF 0 sd 0 (w1, f, 0) m1 a (Nat.zero_le _) (by omega) (by omega) ha k7 k3 k2 k5.symm (fun d hd _ => k9 d hd)
        have g1 : f_X8_take_L27 w oF (nI M) (nI sd) 0 (w1, f, 0) = some u' := g1
        have g2 : f_X11_year_L49 oF (nI M) c (nI sd) 0 0 m1 = _ := g2
        rw [if_neg r1, if_pos r2, r3, Option.bind_some, i1, k1, Option.bind_some, g2, f_X8_take, k6, Option.bind_some, k8, Option.bind_some, g1, Option.bind_some]
        rcases hc with rfl | ⟨d, hd, rfl⟩
        · rw [if_pos rfl, if_neg (show ¬ (0 : Int32) ≤ -1 by decide), f_X8_turned, Option.bind_some, show U_turned u' = _ from g4]
          exact ⟨_, _, _, rfl, rfl, I.p g3⟩
        · have n1 : ¬ nI d = -1 := fun z => by
            have : (nI d).toInt = (-1 : Int32).toInt := by rw [z]
            rw [nI_toInt (by omega)] at this
            have h6 : (-1 : Int32).toInt = -1 := by decide
            omega
          rw [if_neg n1, if_pos (nI_pos' (by omega)), f_X8_timesLowest, at_in _ hd (by decide), Option.bind_some, Option.bind_some]
          show ∃ r t' m'', some (U_timesLowest u' d, u') = _ ∧ _
          rw [show U_timesLowest u' d = _ from g5 d hd rfl]
          exact ⟨_, _, _, rfl, rfl, I.p g3⟩
  unfold f_X10_year f_X11_year
  by_cases e : c = -1
  · rw [if_pos e, e, show f_X11_in (-1 : Int32) (-1 : Int32) (7 : Int32) = some (1, ()) by decide, Option.bind_some, i1]
    rw [e] at main
    exact main (Or.inl rfl)
  · rw [if_neg e]
    rcases per_c c with ⟨d, hd, rfl, -, q1, q3⟩ | ⟨q0, -, q1, q3⟩
    · have : f_X11_in (nI d) (-1 : Int32) (7 : Int32) = some (1, ()) := by
        rw [f_X11_in, if_neg, if_neg (show ¬ (7 : Int32) < nI d from nI_nlt (a := 7) (by omega) (by decide))]
        rw [Int32.lt_iff_toInt_lt, nI_toInt (by omega)]
        have h6 : (-1 : Int32).toInt = -1 := by decide
        omega
      rw [q1, Option.bind_some, i1, this, Option.bind_some, i1]
      exact main (Or.inr ⟨d, hd, rfl⟩)
    · have : f_X11_in c (-1 : Int32) (7 : Int32) = some (0, ()) := by
        rw [f_X11_in]
        by_cases h1 : c < -1
        · rw [if_pos h1]
        · rw [if_neg h1, if_pos]
          by_cases h2 : c < 0
          · exact absurd (show c = -1 by
              rw [Int32.lt_iff_toInt_lt] at h1 h2
              have h6 : (-1 : Int32).toInt = -1 := by decide
              have h7 : (0 : Int32).toInt = 0 := by decide
              apply Int32.toInt_inj.mp
              omega) e
          · obtain ⟨k, hk, rfl⟩ := nI_of h2
            rcases Nat.lt_or_ge k 8 with h | h
            · exact absurd rfl (q0 k h)
            · exact nI_lt (a := 7) (by omega) hk
      rw [q1, Option.bind_some, i0, this, Option.bind_some, i0]
      exact ⟨_, _, _, rfl, rfl, I⟩
