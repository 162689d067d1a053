/-! what the reference does with the wheel, in the words of aW -/
def pM (m m' : sM) : Prop := M_weight m' = M_weight m ∧ M_sits m' = M_sits m ∧ M_stones m' = M_stones m ∧ M_at m' = M_at m ∧ M_drag m' = M_drag m ∧ M_sights m' = M_sights m ∧ M_sight m' = M_sight m ∧ M_signs m' = M_signs m ∧ M_pad m' = M_pad m ∧ M_image m' = M_image m ∧ M_isKept m' = M_isKept m
theorem pM.rf (m : sM) : pM m m := ⟨rfl, rfl, rfl, rfl, rfl, rfl, rfl, rfl, rfl, rfl, rfl⟩
theorem pM.tr {m m1 m2 : sM} (h : pM m m1) (g : pM m1 m2) : pM m m2 := by
  obtain ⟨a1, a2, a3, a4, a5, a6, a7, a8, a9, a10, a11⟩ := h
  obtain ⟨b1, b2, b3, b4, b5, b6, b7, b8, b9, b10, b11⟩ := g
  exact ⟨b1.trans a1, b2.trans a2, b3.trans a3, b4.trans a4, b5.trans a5, b6.trans a6, b7.trans a7, b8.trans a8, b9.trans a9, b10.trans a10, b11.trans a11⟩
/-- the reference's working wheel -/
def relM (m : sM) (a : aW) : Prop := (∀ k, k < 8 → M_weight m k = nI (a_wt a k)) ∧ (∀ k, k < 8 → M_now m k = enc (a_rd a k)) ∧ (∀ k, k < 8 → M_heap m k = nI (a_ld a k)) ∧ M_foot m = nI (a_ft a) ∧ M_drag m = nI (a_dg a)
/-- the reference's own wheel -/
def rel0 (m : sM) (a : aW) : Prop := (∀ k, k < 8 → M_weight m k = nI (a_wt a k)) ∧ (∀ k, k < 8 → M_sits m k = enc (a_rd a k)) ∧ (∀ k, k < 8 → M_stones m k = nI (a_ld a k)) ∧ M_at m = nI (a_ft a) ∧ M_drag m = nI (a_dg a)
theorem rel0.p {m m' : sM} {a : aW} (h : rel0 m a) (p : pM m m') : rel0 m' a := by
  obtain ⟨h1, h2, h3, h4, h5⟩ := h
  obtain ⟨a1, a2, a3, a4, a5, -⟩ := p
  exact ⟨by rw [a1]; exact h1, by rw [a2]; exact h2, by rw [a3]; exact h3, by rw [a4]; exact h4, by rw [a5]; exact h5⟩
theorem x_asNow_L : ∀ (n c : Nat) (m : sM), c ≤ 8 → 8 - c < n → ∃ m', f_X11_asNow_L20 n (nI c) m = some m' ∧ pM m m' ∧ M_foot m' = M_foot m ∧ M_turned m' = M_turned m ∧ M_bothWays m' = M_bothWays m ∧ M_reason m' = M_reason m ∧ (∀ k, M_now m' k = if c ≤ k ∧ k < 8 then M_sits m k else M_now m k) ∧ ∀ k, M_heap m' k = if c ≤ k ∧ k < 8 then M_stones m k else M_heap m k := by
  intro n
  induction n with
  | zero => intro c m _ h; omega
  | succ n ih =>
    intro c m hc hn
    rw [f_X11_asNow_L20]
    by_cases e : c = 8
    · subst e
      rw [if_pos (show (8 : Int32) ≤ nI 8 by decide)]
      refine ⟨m, rfl, pM.rf m, rfl, rfl, rfl, rfl, fun k => ?_, fun k => ?_⟩
      · rw [if_neg (by omega)]
      · rw [if_neg (by omega)]
    · have hlt : c < 8 := by omega
      have g := nI_ok hlt (show 8 < 2147483648 by decide)
      rw [if_neg (show ¬ (8 : Int32) ≤ nI c from nI_ge hlt (by decide)), if_neg g, if_neg g, if_neg g, if_neg g, nI_cl (show c < 2147483648 by omega), show nI c + (1 : Int32) = nI (c + 1) from nI_1 c]
      obtain ⟨m', h1, h2, h3, h4, h5, h6, h7, h8⟩ := ih (c + 1) (M_weight m, M_sits m, M_stones m, M_at m, M_drag m, M_sights m, M_sight m, M_signs m, M_pad m, M_foot m, M_turned m, M_bothWays m, upd (M_now m) c (M_sits m c), upd (M_heap m) c (M_stones m c), M_reason m, M_image m, M_isKept m) (by omega) (by omega)
      refine ⟨m', h1, h2, h3, h4, h5, h6, fun k => ?_, fun k => ?_⟩
      · rw [h7 k]
        show (if c + 1 ≤ k ∧ k < 8 then M_sits m k else upd (M_now m) c (M_sits m c) k) = _
        rw [upd_at]
        by_cases e1 : k = c
        · rw [if_neg (by omega), if_pos e1, if_pos (by omega), e1]
        · rw [if_neg e1]
          by_cases e2 : c + 1 ≤ k ∧ k < 8
          · rw [if_pos e2, if_pos (by omega)]
          · rw [if_neg e2, if_neg (by omega)]
      · rw [h8 k]
        show (if c + 1 ≤ k ∧ k < 8 then M_stones m k else upd (M_heap m) c (M_stones m c) k) = _
        rw [upd_at]
        by_cases e1 : k = c
        · rw [if_neg (by omega), if_pos e1, if_pos (by omega), e1]
        · rw [if_neg e1]
          by_cases e2 : c + 1 ≤ k ∧ k < 8
          · rw [if_pos e2, if_pos (by omega)]
          · rw [if_neg e2, if_neg (by omega)]
theorem x_asNow {m : sM} {a : aW} (h : rel0 m a) : ∃ m', f_X11_asNow m = some m' ∧ pM m m' ∧ relM m' a ∧ M_turned m' = 0 ∧ M_bothWays m' = 0 ∧ M_reason m' = M_reason m := by
  obtain ⟨m', h1, h2, h3, h4, h5, h6, h7, h8⟩ := x_asNow_L oF 0 (M_weight m, M_sits m, M_stones m, M_at m, M_drag m, M_sights m, M_sight m, M_signs m, M_pad m, M_at m, (0 : Int32), (0 : Int32), M_now m, M_heap m, M_reason m, M_image m, M_isKept m) (Nat.zero_le _) (by have := oF_ge; omega)
  refine ⟨m', h1, h2, ⟨?_, ?_, ?_, ?_, ?_⟩, h4, h5, h6⟩
  · intro k hk; rw [h2.1]; exact h.1 k hk
  · intro k hk; rw [h7 k, if_pos ⟨Nat.zero_le _, hk⟩]; exact h.2.1 k hk
  · intro k hk; rw [h8 k, if_pos ⟨Nat.zero_le _, hk⟩]; exact h.2.2.1 k hk
  · rw [h3]; exact h.2.2.2.1
  · rw [h2.2.2.2.2.1]; exact h.2.2.2.2
def armT (k : Nat) : Bool := decide (f_X11_arm (nI k) = some (arms k, ()))
theorem arm_tab : (List.range 8).all armT = true := by decide +kernel
theorem x_arm {k : Nat} (h : k < 8) : f_X11_arm (nI k) = some (arms k, ()) := of_decide_eq_true (List.all_eq_true.mp arm_tab k (List.mem_range.mpr h))
theorem md8 {n : Nat} (h : n < 2147483648) : nI n - nI n / (8 : Int32) * (8 : Int32) = nI (n % 8) := pk_rem (d := 8) h (by decide) (by decide)
theorem x_pull_L {m : sM} {a : aW} (h : relM m a) (ha : okA a) {f : Nat} (hf : f < 8) : ∀ (n c : Nat), c ≤ 8 → 8 - c < n → f_X11_pullAt_L4 m n (nI f) (iI (aPs a f c)) (nI c) = some (iI (aP a f), ()) := by
  have e8 : (8 : Nat) < 2147483648 := by decide
  intro n
  induction n with
  | zero => intro c _ q; omega
  | succ n ih =>
    intro c hc hn
    rw [f_X11_pullAt_L4]
    by_cases e : c = 8
    · rw [e, if_pos (show (8 : Int32) ≤ nI 8 by decide)]
      rfl
    · have hlt : c < 8 := by omega
      have g := nI_ok hlt e8
      have key : ∀ x y : Int32, x + y = iI ((a_ld a c : Int) + rwt a c) → f_X11_pullAt_J40 m (f_X11_pullAt_L4 m n) (nI f) (iI (aPs a f c)) (nI c) x y = some (iI (aP a f), ()) := by
        intro x y hx
        have hz : nI c - nI f + (8 : Int32) = nI (c + 8 - f) := by
          rw [show (8 : Int32) = iI 8 from rfl, iI_nI c, iI_nI f, iI_sub, iI_add, iI_nI]
          congr 1
          omega
        simp only [f_X11_pullAt_J40]
        rw [hz, md8 (by omega), x_arm (Nat.mod_lt _ (by decide)), Option.bind_some]
        rw [show (1 : Int32) = iI 1 from rfl, arI_e, hx, iI_mul, iI_add, iI_nI c, iI_add]
        have := ih (c + 1) hlt (by omega)
        rw [iI_nI (c + 1), aPs] at this
        exact this
      rw [if_neg (show ¬ (8 : Int32) ≤ nI c from nI_ge hlt e8), if_neg g, if_neg g, nI_cl (show c < 2147483648 by omega), h.2.1 c hlt, h.2.2.1 c hlt]
      by_cases hr : a_rd a c < 8
      · have g2 : ¬ (nI c < 0 ∨ 8 ≤ c) := fun q => q.elim (nI_pos (by omega)) (by omega)
        rw [enc_lt hr, if_pos (show 0 ≤ nI (a_rd a c) from nI_pos' (by omega)), if_neg g2, if_neg (nI_ok hr e8), nI_cl (show a_rd a c < 2147483648 by omega), h.1 _ hr]
        exact key _ _ (by rw [iI_nI, iI_nI, iI_add, rwt, if_pos hr])
      · rw [enc_8 hr, if_neg (show ¬ (0 : Int32) ≤ -6 by decide)]
        exact key _ _ (by rw [iI_nI, show (0 : Int32) = iI 0 from rfl, iI_add, rwt, if_neg hr])
theorem x_pullAt {m : sM} {a : aW} (h : relM m a) (ha : okA a) {f : Nat} (hf : f < 8) : f_X11_pullAt m (nI f) = some (iI (aP a f), ()) :=
  x_pull_L h ha hf oF 0 (Nat.zero_le _) (by have := oF_ge; omega)
theorem x_car_L {m : sM} {a : aW} (h : relM m a) (ha : okA a) {p : Nat} (hp : p < 8) : ∀ (n c : Nat), c ≤ 8 → 8 - c < n → f_X11_carOf_L5 m n (nI p) (enc (crF (a_rd a) p c)) (nI c) = some (enc (cr (a_rd a) p), ()) := by
  have e8 : (8 : Nat) < 2147483648 := by decide
  intro n
  induction n with
  | zero => intro c _ q; omega
  | succ n ih =>
    intro c hc hn
    rw [f_X11_carOf_L5]
    by_cases e : c = 8
    · rw [e, if_pos (show (8 : Int32) ≤ nI 8 by decide)]
      rfl
    · have hlt : c < 8 := by omega
      have g := nI_ok hlt e8
      have := ih (c + 1) hlt (by omega)
      rw [crF] at this
      rw [if_neg (show ¬ (8 : Int32) ≤ nI c from nI_ge hlt e8), if_neg g, nI_cl (show c < 2147483648 by omega), h.2.1 c hlt, show nI c + (1 : Int32) = nI (c + 1) from nI_1 c]
      by_cases hr : a_rd a c = p
      · rw [if_pos hr] at this
        rw [if_pos (show enc (a_rd a c) = nI p by rw [hr, enc_lt hp]), ← this, enc_lt hlt]
      · rw [if_neg hr] at this
        rw [if_neg (show ¬ enc (a_rd a c) = nI p from fun q => hr ((enc_inj (ha.2.2.2.2.1 c hlt) (Nat.le_of_lt hp)).mp (by rw [q, enc_lt hp])))]
        exact this
theorem x_carOf {m : sM} {a : aW} (h : relM m a) (ha : okA a) {p : Nat} (hp : p < 8) : f_X11_carOf m (nI p) = some (enc (cr (a_rd a) p), ()) :=
  x_car_L h ha hp oF 0 (Nat.zero_le _) (by have := oF_ge; omega)
/-- what letGo may change beside the working wheel -/
theorem wy_one {d : Nat} {z : Int} : wy d z = 1 ↔ (d : Int) < z := by
  unfold wy
  by_cases h : (d : Int) < z
  · rw [if_pos h]; exact ⟨fun _ => h, fun _ => rfl⟩
  · rw [if_neg h]
    by_cases h2 : z < -(d : Int)
    · rw [if_pos h2]; exact ⟨fun q => by omega, fun q => absurd q h⟩
    · rw [if_neg h2]; exact ⟨fun q => by omega, fun q => absurd q h⟩
theorem wy_neg {d : Nat} {z : Int} : wy d z = -1 ↔ z < -(d : Int) := by
  unfold wy
  by_cases h : (d : Int) < z
  · rw [if_pos h]; exact ⟨fun q => by omega, fun q => by omega⟩
  · rw [if_neg h]
    by_cases h2 : z < -(d : Int)
    · rw [if_pos h2]; exact ⟨fun _ => h2, fun _ => rfl⟩
    · rw [if_neg h2]; exact ⟨fun q => by omega, fun q => absurd q h2⟩
theorem x_go_L {a : aW} (ha : okA a) {w : Int} (hw : w = 1 ∨ w = -1) : ∀ (k n f : Nat) (m : sM), f < 8 → relM m (a_foot a f) → (∃ j, j ≤ k ∧ wy (a_dg a) (aP a (itr w j f)) ≠ w) → k < n → ∃ m', f_X11_letGo_L36 n (iI w) m = some m' ∧ pM m m' ∧ relM m' (a_foot a (aGo a w k f).2) ∧ M_turned m' = M_turned m + iI (aGo a w k f).1 ∧ M_bothWays m' = M_bothWays m + iI (w * (aGo a w k f).1) ∧ M_reason m' = M_reason m := by
  intro k
  induction k with
  | zero =>
    intro n f m hf h hj hn
    obtain ⟨n, rfl⟩ : ∃ q, n = q + 1 := ⟨n - 1, by omega⟩
    obtain ⟨j, hj0, hj1⟩ := hj
    have : j = 0 := by omega
    subst this
    have hj1 : wy (a_dg a) (aP a f) ≠ w := hj1
    have hp := x_pullAt h (okA_foot ha hf) hf
    rw [aP_foot] at hp
    have hb := aP_bd ha f
    have hd := ha.2.1
    have hle : iI w * iI (aP a f) ≤ M_drag m := by
      rw [h.2.2.2.2, iI_nI, iI_mul, iI_le (by rcases hw with rfl | rfl <;> omega) (by rcases hw with rfl | rfl <;> omega) (by show (-2147483648 : Int) ≤ ((a_dg a : Nat) : Int); omega) (by show ((a_dg a : Nat) : Int) < _; omega)]
      show w * aP a f ≤ (a_dg a : Int)
      rcases hw with rfl | rfl
      · have := mt wy_one.mpr hj1; omega
      · have := mt wy_neg.mpr hj1; omega
    refine ⟨m, ?_, pM.rf m, h, ?_, ?_, rfl⟩
    · rw [f_X11_letGo_L36, h.2.2.2.1]
      show (f_X11_pullAt m (nI f)).bind _ = _
      rw [hp, Option.bind_some, if_pos hle]
    · show _ = _ + iI 0
      rw [show iI 0 = (0 : Int32) from rfl, Int32.add_zero]
    · show _ = _ + iI (w * 0)
      rw [Int.mul_zero, show iI 0 = (0 : Int32) from rfl, Int32.add_zero]
  | succ k ih =>
    intro n f m hf h hj hn
    obtain ⟨n, rfl⟩ : ∃ q, n = q + 1 := ⟨n - 1, by omega⟩
    have hp := x_pullAt h (okA_foot ha hf) hf
    rw [aP_foot] at hp
    have hb := aP_bd ha f
    have hd := ha.2.1
    have hft : M_foot m = nI f := h.2.2.2.1
    have hdr : M_drag m = nI (a_dg a) := h.2.2.2.2
    have hiff : iI w * iI (aP a f) ≤ M_drag m ↔ wy (a_dg a) (aP a f) ≠ w := by
      rw [hdr, iI_nI, iI_mul, iI_le (by rcases hw with rfl | rfl <;> omega) (by rcases hw with rfl | rfl <;> omega) (by omega) (by omega)]
      rcases hw with rfl | rfl
      · have := wy_one (d := a_dg a) (z := aP a f); omega
      · have := wy_neg (d := a_dg a) (z := aP a f); omega
    rw [f_X11_letGo_L36, hft, hp, Option.bind_some, aGo]
    by_cases e : wy (a_dg a) (aP a f) = w
    · rw [if_neg (fun q => hiff.mp q e), if_pos (show w ≠ 0 ∧ wy (a_dg a) (aP a f) = w from ⟨by omega, e⟩)]
      have hmd : (nI f + iI w + (8 : Int32)) - (nI f + iI w + (8 : Int32)) / (8 : Int32) * (8 : Int32) = nI (tu f w) := by
        have e1 : nI f + iI w + (8 : Int32) = nI ((f : Int) + w + 8).toNat := by
          rw [show (8 : Int32) = iI 8 from rfl, iI_nI f, iI_add, iI_add, iI_nI]
          congr 1
          omega
        rw [e1, md8 (by omega)]
        congr 1
        unfold tu
        omega
      rw [hmd]
      obtain ⟨m', h1, h2, h3, h4, h5, h6⟩ := ih n (tu f w) (M_weight m, M_sits m, M_stones m, M_at m, M_drag m, M_sights m, M_sight m, M_signs m, M_pad m, nI (tu f w), M_turned m + iI w, M_bothWays m + (1 : Int32), M_now m, M_heap m, M_reason m, M_image m, M_isKept m) (tu_lt _ _) ⟨h.1, h.2.1, h.2.2.1, rfl, h.2.2.2.2⟩ (by
        obtain ⟨j, hj0, hj1⟩ := hj
        cases j with
        | zero => exact absurd e hj1
        | succ j => exact ⟨j, by omega, hj1⟩) (by omega)
      refine ⟨m', h1, h2, h3, ?_, ?_, h6⟩
      · rw [h4]
        show M_turned m + iI w + iI (aGo a w k (tu f w)).1 = M_turned m + iI ((aGo a w k (tu f w)).1 + w)
        rw [Int32.add_assoc, iI_add, Int.add_comm w]
      · rw [h5]
        show M_bothWays m + (1 : Int32) + iI (w * (aGo a w k (tu f w)).1) = M_bothWays m + iI (w * ((aGo a w k (tu f w)).1 + w))
        rw [Int32.add_assoc, show (1 : Int32) = iI 1 from rfl, iI_add]
        congr 2
        rcases hw with rfl | rfl <;> omega
    · rw [if_pos (hiff.mpr e), if_neg (fun q => e q.2)]
      refine ⟨m, rfl, pM.rf m, h, ?_, ?_, rfl⟩
      · show _ = _ + iI 0
        rw [show iI 0 = (0 : Int32) from rfl, Int32.add_zero]
      · show _ = _ + iI (w * 0)
        rw [Int.mul_zero, show iI 0 = (0 : Int32) from rfl, Int32.add_zero]
def aBoth (a : aW) : Int := wy (a_dg a) (aP a (a_ft a)) * (aLet a).1
theorem x_letGo {m : sM} {a : aW} (h : relM m a) (ha : okA a) : ∃ m', f_X11_letGo m = some m' ∧ pM m m' ∧ relM m' (a_foot a (aLet a).2) ∧ M_turned m' = M_turned m + iI (aLet a).1 ∧ M_bothWays m' = M_bothWays m + iI (aBoth a) ∧ M_reason m' = M_reason m := by
  have hp := x_pullAt h ha ha.1
  have hb := aP_bd ha (a_ft a)
  have hd := ha.2.1
  have hft : M_foot m = nI (a_ft a) := h.2.2.2.1
  have hdr : M_drag m = nI (a_dg a) := h.2.2.2.2
  have h : relM m (a_foot a (a_ft a)) := h
  have ho := oF_ge
  unfold aBoth aLet
  rw [f_X11_letGo, hft, hp, Option.bind_some, hdr]
  have c1 : iI (aP a (a_ft a)) ≤ nI (a_dg a) ↔ ¬ (a_dg a : Int) < aP a (a_ft a) := by
    rw [iI_nI, iI_le (by omega) (by omega) (by omega) (by omega)]; omega
  have c2 : -nI (a_dg a) ≤ iI (aP a (a_ft a)) ↔ ¬ aP a (a_ft a) < -(a_dg a : Int) := by
    rw [iI_nI, iI_neg, iI_le (by omega) (by omega) (by omega) (by omega)]; omega
  by_cases e1 : (a_dg a : Int) < aP a (a_ft a)
  · rw [if_neg (fun q => c1.mp q e1), wy_one.mpr e1]
    exact x_go_L ha (Or.inl rfl) 8 oF (a_ft a) m ha.1 h (aGo_stops a (Or.inl rfl) ha.1) (by omega)
  · rw [if_pos (c1.mpr e1)]
    by_cases e2 : aP a (a_ft a) < -(a_dg a : Int)
    · rw [if_neg (fun q => c2.mp q e2), wy_neg.mpr e2]
      exact x_go_L ha (Or.inr rfl) 8 oF (a_ft a) m ha.1 h (aGo_stops a (Or.inr rfl) ha.1) (by omega)
    · rw [if_pos (c2.mpr e2)]
      have e0 : wy (a_dg a) (aP a (a_ft a)) = 0 := by unfold wy; rw [if_neg e1, if_neg e2]
      rw [e0]
      have e3 : aGo a 0 8 (a_ft a) = (0, a_ft a) := by rw [aGo, if_neg (fun q => q.1 rfl)]
      rw [e3]
      obtain ⟨n, hn⟩ : ∃ q, oF = q + 1 := ⟨oF - 1, by omega⟩
      refine ⟨m, ?_, pM.rf m, h, ?_, ?_, rfl⟩
      · rw [hn, f_X11_letGo_L36, hft, hp, Option.bind_some, if_pos]
        rw [hdr, show (0 : Int32) = iI 0 from rfl, iI_mul, Int.zero_mul, iI_nI]
        exact (iI_le (by omega) (by omega) (by omega) (by omega)).mpr (by omega)
      · show _ = _ + iI 0
        rw [show iI 0 = (0 : Int32) from rfl, Int32.add_zero]
      · show _ = _ + iI (0 * 0)
        rw [Int.mul_zero, show iI 0 = (0 : Int32) from rfl, Int32.add_zero]
