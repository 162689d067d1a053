/-! NUMBERS: ints as integers -/
def iI (z : Int) : Int32 := Int32.ofInt z
theorem iI_nI (n : Nat) : nI n = iI n := (Int32.ofInt_eq_ofNat (n := n)).symm
theorem iI_toInt {z : Int} (h1 : -2147483648 ≤ z) (h2 : z < 2147483648) : (iI z).toInt = z := Int32.toInt_ofInt_of_le h1 h2
theorem iI_add (a b : Int) : iI a + iI b = iI (a + b) := (Int32.ofInt_add a b).symm
theorem iI_sub (a b : Int) : iI a - iI b = iI (a - b) := (Int32.ofInt_sub a b).symm
theorem iI_mul (a b : Int) : iI a * iI b = iI (a * b) := (Int32.ofInt_mul a b).symm
theorem iI_neg (a : Int) : -iI a = iI (-a) := (Int32.ofInt_neg a).symm
theorem iI_lt {a b : Int} (h1 : -2147483648 ≤ a) (h2 : a < 2147483648) (h3 : -2147483648 ≤ b) (h4 : b < 2147483648) : iI a < iI b ↔ a < b := by
  rw [Int32.lt_iff_toInt_lt, iI_toInt h1 h2, iI_toInt h3 h4]
theorem iI_le {a b : Int} (h1 : -2147483648 ≤ a) (h2 : a < 2147483648) (h3 : -2147483648 ≤ b) (h4 : b < 2147483648) : iI a ≤ iI b ↔ a ≤ b := by
  rw [Int32.le_iff_toInt_le, iI_toInt h1 h2, iI_toInt h3 h4]
theorem iI_eq {a b : Int} (h1 : -2147483648 ≤ a) (h2 : a < 2147483648) (h3 : -2147483648 ≤ b) (h4 : b < 2147483648) : iI a = iI b ↔ a = b := by
  rw [← Int32.toInt_inj, iI_toInt h1 h2, iI_toInt h3 h4]
theorem iI_self (x : Int32) : iI x.toInt = x := Int32.ofInt_toInt x
theorem tI_lo (x : Int32) : -2147483648 ≤ x.toInt := x.le_toInt
theorem tI_hi (x : Int32) : x.toInt < 2147483648 := x.toInt_lt
theorem nI_tI {n : Nat} (h : n < 2147483648) : (nI n).toInt = n := nI_toInt h
theorem nI_cl {n : Nat} (h : n < 2147483648) : (nI n).toNatClampNeg = n := nI_clamp h
theorem nI_ok {k n : Nat} (h : k < n) (hn : n < 2147483648) : ¬ (nI k < 0 ∨ n ≤ (nI k).toNatClampNeg) := nI_in h hn
theorem i_of {x : Int32} {n : Nat} (hn : n < 2147483648) (h0 : ¬ x < 0) (h1 : ¬ nI n ≤ x) : ∃ k, k < n ∧ x = nI k := by
  obtain ⟨k, hk, rfl⟩ := nI_of h0
  refine ⟨k, ?_, rfl⟩
  rcases Nat.lt_or_ge k n with h | h
  · exact h
  · exact absurd (nI_le h hk) h1
/-- floorMod by 8, of small ints -/
def fmT (k : Nat) : Bool := decide (f_J9_floorMod_7cf53 (iI ((k : Int) - 40)) 8 = some (nI ((((k : Int) - 40) % 8).toNat), ()))
theorem fm_tab : (List.range 100).all fmT = true := by decide +kernel
theorem flm8 {z : Int} (h1 : -40 ≤ z) (h2 : z < 60) : f_J9_floorMod_7cf53 (iI z) 8 = some (nI (z % 8).toNat, ()) := by
  have h := List.all_eq_true.mp fm_tab (z + 40).toNat (List.mem_range.mpr (by omega))
  have h3 : ((z + 40).toNat : Int) - 40 = z := by omega
  have h4 := of_decide_eq_true h
  rw [h3] at h4
  exact h4
/-! ROWS -/
theorem at_in {n k : Nat} (f : Fn) (h : k < n) (hn : n < 2147483648) : f_X10_at n f (nI k) = some (f k, ()) := by
  unfold f_X10_at
  rw [if_neg (nI_pos (Nat.lt_trans h hn)), if_neg (show ¬ Int32.ofNat n ≤ nI k from nI_ge h hn), if_neg (nI_ok h hn), nI_cl (Nat.lt_trans h hn)]
theorem at_neg {n : Nat} {f : Fn} {x : Int32} (h : x < 0) : f_X10_at n f x = some (-6, ()) := by
  unfold f_X10_at
  rw [if_pos h]
theorem at_big {n : Nat} {f : Fn} {x : Int32} (h : ¬ x < 0) (h2 : nI n ≤ x) : f_X10_at n f x = some (-6, ()) := by
  unfold f_X10_at
  rw [if_neg h, if_pos (show Int32.ofNat n ≤ x from h2)]
theorem put_in {n k : Nat} (f : Fn) (x : Int32) (h : k < n) (hn : n < 2147483648) : f_X10_put n f (nI k) x = some (upd f k x) := by
  unfold f_X10_put
  rw [if_neg (nI_pos (Nat.lt_trans h hn)), if_neg (show ¬ Int32.ofNat n ≤ nI k from nI_ge h hn), if_neg (nI_ok h hn), nI_cl (Nat.lt_trans h hn)]
theorem put_neg {n : Nat} {f : Fn} {x y : Int32} (h : x < 0) : f_X10_put n f x y = some f := by
  unfold f_X10_put
  rw [if_pos h]
def atTT (k : Nat) : Bool := decide (f_X10_atT (nI k) = some (arms k, ()))
theorem atT_tab : (List.range 8).all atTT = true := by decide +kernel
theorem atT_in {k : Nat} (h : k < 8) : f_X10_atT (nI k) = some (arms k, ()) := of_decide_eq_true (List.all_eq_true.mp atT_tab k (List.mem_range.mpr h))
theorem copy_n {n : Nat} (f g : Fn) (hn : n < 2147483648) : f_X10_copyRow n n f g = some (va_cpy f g 0 0 n) := by
  have h1 : ¬ Int32.ofNat n < Int32.ofNat n := fun h => (nI_nlt (Nat.le_refl n) hn) h
  have h2 : ¬ (Int32.ofNat n < 0 ∨ n < (Int32.ofNat n).toNatClampNeg ∨ n < (Int32.ofNat n).toNatClampNeg) := by
    have h3 : (Int32.ofNat n).toNatClampNeg = n := nI_cl hn
    rw [h3]
    rintro (h | h | h)
    · exact nI_pos hn h
    · omega
    · omega
  unfold f_X10_copyRow
  rw [if_neg h1, if_neg h2, show (Int32.ofNat n).toNatClampNeg = n from nI_cl hn]
theorem cpy_at {f g : Fn} {n k : Nat} (h : k < n) : va_cpy f g 0 0 n k = f k := by
  have := pk_cpy_in (f := f) (g := g) (sp := 0) (dp := 0) (n := n) (j := k) (Nat.zero_le k) (by omega)
  rw [this]
  simp
theorem fill_L {N : Nat} (hN : N < 2147483648) (v : Int32) : ∀ (n c : Nat) (f : Fn), c ≤ N → N - c < n → ∃ f' : Fn, f_J7_fill_53178_L5 N n v (nI c) (nI N) f = some f' ∧ ∀ k, f' k = if c ≤ k ∧ k < N then v else f k := by
  intro n
  induction n with
  | zero => intro c f _ h; omega
  | succ n ih =>
    intro c f hc hn
    rw [f_J7_fill_53178_L5]
    by_cases h : N ≤ c
    · have e : c = N := by omega
      subst e
      rw [if_pos (nI_le (Nat.le_refl c) hN)]
      refine ⟨f, rfl, fun k => ?_⟩
      rw [if_neg (by omega)]
    · have hlt : c < N := by omega
      rw [if_neg (nI_ge hlt hN), if_neg (nI_ok hlt hN), nI_cl (by omega)]
      obtain ⟨f', h1, h2⟩ := ih (c + 1) (upd f c v) hlt (by omega)
      rw [show nI c + (1 : Int32) = nI (c + 1) from nI_1 c]
      refine ⟨f', h1, fun k => ?_⟩
      rw [h2]
      by_cases hk : k = c
      · subst hk
        rw [if_neg (by omega), if_pos ⟨Nat.le_refl _, hlt⟩, pk_us]
      · rw [pk_un hk]
        by_cases hk2 : c + 1 ≤ k ∧ k < N
        · rw [if_pos hk2, if_pos ⟨by omega, hk2.2⟩]
        · rw [if_neg hk2, if_neg (by omega)]
theorem oF_ge : 30000 < oF := by decide
theorem fill_n {N : Nat} (hN : N < 20000) (v : Int32) (f : Fn) : ∃ f' : Fn, f_J7_fill_53178 N f v = some f' ∧ ∀ k, k < N → f' k = v := by
  obtain ⟨f', h1, h2⟩ := fill_L (N := N) (by omega) v oF 0 f (Nat.zero_le _) (by have := oF_ge; omega)
  refine ⟨f', h1, fun k hk => ?_⟩
  rw [h2, if_pos ⟨Nat.zero_le _, hk⟩]
/-! THE WHEEL: weights, riders (8: nobody), loads, the lowest car, the drag -/
abbrev aW : Type := (Nat → Nat) × (Nat → Nat) × (Nat → Nat) × Nat × Nat
abbrev a_wt (a : aW) : Nat → Nat := a.1
abbrev a_rd (a : aW) : Nat → Nat := a.2.1
abbrev a_ld (a : aW) : Nat → Nat := a.2.2.1
abbrev a_ft (a : aW) : Nat := a.2.2.2.1
abbrev a_dg (a : aW) : Nat := a.2.2.2.2
def enc (n : Nat) : Int32 := if n < 8 then nI n else -6
theorem enc_lt {n : Nat} (h : n < 8) : enc n = nI n := if_pos h
theorem enc_8 {n : Nat} (h : ¬ n < 8) : enc n = -6 := if_neg h
def encT (q : Nat × Nat) : Bool := decide (enc q.1 = enc q.2 ↔ q.1 = q.2)
theorem enc_tab : ((List.range 9).flatMap fun i => (List.range 9).map fun j => (i, j)).all encT = true := by decide +kernel
theorem enc_inj {m n : Nat} (hm : m ≤ 8) (hn : n ≤ 8) : enc m = enc n ↔ m = n := by
  have h := List.all_eq_true.mp enc_tab (m, n) (List.mem_flatMap.mpr ⟨m, List.mem_range.mpr (by omega), List.mem_map.mpr ⟨n, List.mem_range.mpr (by omega), rfl⟩⟩)
  exact of_decide_eq_true h
theorem enc_no {n : Nat} (h : n ≤ 8) : enc n = -6 ↔ n = 8 := by
  have := enc_inj h (Nat.le_refl 8)
  rw [← this]
  rfl
theorem enc_neg {n : Nat} (h : n ≤ 8) : enc n < 0 ↔ n = 8 := by
  by_cases hn : n < 8
  · rw [enc_lt hn]
    constructor
    · intro q; exact absurd q (nI_pos (by omega))
    · omega
  · have e : n = 8 := by omega
    subst e
    exact ⟨fun _ => rfl, fun _ => by decide⟩
/-- the car of a person: the last that holds him (8: none) -/
def crF (rd : Nat → Nat) (p : Nat) : Nat → Nat
  | 0 => 8
  | n + 1 => if rd n = p then n else crF rd p n
def cr (rd : Nat → Nat) (p : Nat) : Nat := crF rd p 8
theorem crF_le (rd : Nat → Nat) (p : Nat) : ∀ n, n ≤ 8 → crF rd p n ≤ 8
  | 0, _ => Nat.le_refl 8
  | n + 1, h => by
    rw [crF]
    by_cases e : rd n = p
    · rw [if_pos e]; omega
    · rw [if_neg e]; exact crF_le rd p n (by omega)
theorem cr_le (rd : Nat → Nat) (p : Nat) : cr rd p ≤ 8 := crF_le rd p 8 (Nat.le_refl 8)
theorem crF_lt {rd : Nat → Nat} {p : Nat} : ∀ {n : Nat}, n ≤ 8 → crF rd p n < 8 → crF rd p n < n ∧ rd (crF rd p n) = p
  | 0, _, h => absurd h (show ¬ (8 < 8) by decide)
  | n + 1, hn, h => by
    rw [crF] at h ⊢
    by_cases e : rd n = p
    · rw [if_pos e]; exact ⟨by omega, e⟩
    · rw [if_neg e] at h ⊢
      obtain ⟨h1, h2⟩ := crF_lt (n := n) (by omega) h
      exact ⟨by omega, h2⟩
theorem crF_8 {rd : Nat → Nat} {p : Nat} : ∀ {n : Nat}, n ≤ 8 → crF rd p n = 8 → ∀ k, k < n → rd k ≠ p
  | 0, _, _, k, hk => absurd hk (by omega)
  | n + 1, hn, h, k, hk => by
    rw [crF] at h
    by_cases e : rd n = p
    · rw [if_pos e] at h; omega
    · rw [if_neg e] at h
      by_cases hkn : k = n
      · rw [hkn]; exact e
      · exact crF_8 (n := n) (by omega) h k (by omega)
def okR (rd : Nat → Nat) : Prop := (∀ k, k < 8 → rd k ≤ 8) ∧ ∀ j k, j < 8 → k < 8 → rd j = rd k → rd j < 8 → j = k
theorem cr_iff {rd : Nat → Nat} (h : okR rd) {p c : Nat} (hp : p < 8) (hc : c < 8) : cr rd p = c ↔ rd c = p := by
  constructor
  · intro e
    have := (crF_lt (rd := rd) (p := p) (n := 8) (Nat.le_refl 8) (by show cr rd p < 8; omega)).2
    have e2 : crF rd p 8 = c := e
    rw [e2] at this
    exact this
  · intro e
    by_cases h8 : cr rd p < 8
    · obtain ⟨h1, h2⟩ := crF_lt (rd := rd) (p := p) (n := 8) (Nat.le_refl 8) h8
      exact h.2 _ _ h1 hc (h2.trans e.symm) (by rw [show rd (cr rd p) = p from h2]; exact hp)
    · have h9 : crF rd p 8 = 8 := by have := cr_le rd p; show cr rd p = 8; omega
      exact absurd e (crF_8 (Nat.le_refl 8) h9 c hc)
theorem cr_none {rd : Nat → Nat} {p : Nat} : cr rd p = 8 ↔ ∀ k, k < 8 → rd k ≠ p := by
  constructor
  · intro h; exact crF_8 (Nat.le_refl 8) h
  · intro h
    by_cases h8 : cr rd p < 8
    · obtain ⟨h1, h2⟩ := crF_lt (rd := rd) (p := p) (n := 8) (Nat.le_refl 8) h8
      exact absurd h2 (h _ h1)
    · have := cr_le rd p; omega
def un (f : Nat → Nat) (k x : Nat) : Nat → Nat := fun j => if j = k then x else f j
theorem un_s (f : Nat → Nat) (k x : Nat) : un f k x k = x := if_pos rfl
theorem un_n {f : Nat → Nat} {k x j : Nat} (h : j ≠ k) : un f k x j = f j := if_neg h
theorem un_un (f : Nat → Nat) (k x y : Nat) : un (un f k x) k y = un f k y := by
  funext j
  by_cases h : j = k
  · rw [h, un_s, un_s]
  · rw [un_n h, un_n h, un_n h]
theorem un_id (f : Nat → Nat) (k : Nat) : un f k (f k) = f := by
  funext j
  by_cases h : j = k
  · rw [h, un_s]
  · rw [un_n h]
theorem okR_seat {rd : Nat → Nat} (h : okR rd) {c p : Nat} (hp : p < 8) (hn : cr rd p = 8 ∨ cr rd p = c) : okR (un rd c p) := by
  have hno : ∀ k, k < 8 → k ≠ c → rd k ≠ p := by
    intro k hk hkc e
    have := (cr_iff h hp hk).mpr e
    omega
  refine ⟨fun k hk => ?_, fun j k hj hk e hl => ?_⟩
  · by_cases e : k = c
    · rw [e, un_s]; omega
    · rw [un_n e]; exact h.1 k hk
  · by_cases e1 : j = c <;> by_cases e2 : k = c
    · rw [e1, e2]
    · rw [e1, un_s, un_n e2] at e
      exact absurd e.symm (hno k hk e2)
    · rw [e2, un_s, un_n e1] at e
      exact absurd e (hno j hj e1)
    · rw [un_n e1] at e hl
      rw [un_n e2] at e
      exact h.2 j k hj hk e hl
theorem okR_un {rd : Nat → Nat} (h : okR rd) (c : Nat) : okR (un rd c 8) := by
  refine ⟨fun k hk => ?_, fun j k hj hk e hl => ?_⟩
  · by_cases e : k = c
    · rw [e, un_s]; omega
    · rw [un_n e]; exact h.1 k hk
  · by_cases e1 : j = c
    · rw [e1, un_s] at hl; omega
    · rw [un_n e1] at e hl
      by_cases e2 : k = c
      · rw [e2, un_s] at e; omega
      · rw [un_n e2] at e
        exact h.2 j k hj hk e hl
theorem cr_seat {rd : Nat → Nat} (h : okR rd) {c p : Nat} (hc : c < 8) (hp : p < 8) (hn : cr rd p = 8 ∨ cr rd p = c) (hd : rd c = 8 ∨ rd c = p) {q : Nat} (hq : q < 8) : cr (un rd c p) q = if q = p then c else cr rd q := by
  have h2 := okR_seat h hp hn
  by_cases e : q = p
  · rw [if_pos e, e]
    exact (cr_iff h2 hp hc).mpr (un_s _ _ _)
  · rw [if_neg e]
    by_cases h8 : cr rd q < 8
    · have hr := (cr_iff h hq h8).mp rfl
      refine (cr_iff h2 hq h8).mpr ?_
      have : cr rd q ≠ c := by
        intro e3; rw [e3] at hr
        rcases hd with hd | hd <;> omega
      rw [un_n this]; exact hr
    · have h9 : cr rd q = 8 := by have := cr_le rd q; omega
      rw [h9]
      refine cr_none.mpr fun k hk => ?_
      by_cases e2 : k = c
      · rw [e2, un_s]; exact fun z => e z.symm
      · rw [un_n e2]; exact cr_none.mp h9 k hk
theorem cr_un {rd : Nat → Nat} (h : okR rd) {c : Nat} (hc : c < 8) {q : Nat} (hq : q < 8) : cr (un rd c 8) q = if q = rd c then 8 else cr rd q := by
  have h2 := okR_un h c
  by_cases e : q = rd c
  · rw [if_pos e]
    refine cr_none.mpr fun k hk => ?_
    by_cases e2 : k = c
    · rw [e2, un_s]; omega
    · rw [un_n e2]
      intro e3
      exact e2 (h.2 k c hk hc (e3.trans e) (by omega))
  · rw [if_neg e]
    by_cases h8 : cr rd q < 8
    · have hr := (cr_iff h hq h8).mp rfl
      refine (cr_iff h2 hq h8).mpr ?_
      have : cr rd q ≠ c := by intro e3; rw [e3] at hr; exact e hr.symm
      rw [un_n this]; exact hr
    · have h9 : cr rd q = 8 := by have := cr_le rd q; omega
      rw [h9]
      refine cr_none.mpr fun k hk => ?_
      by_cases e2 : k = c
      · rw [e2, un_s]; omega
      · rw [un_n e2]; exact cr_none.mp h9 k hk
def okA (a : aW) : Prop := a_ft a < 8 ∧ a_dg a ≤ 9999 ∧ (∀ k, k < 8 → 1 ≤ a_wt a k ∧ a_wt a k ≤ 99) ∧ (∀ k, k < 8 → a_ld a k ≤ 99) ∧ okR (a_rd a)
def relW (u : sW) (a : aW) : Prop := (∀ k, k < 8 → W_weights u k = nI (a_wt a k)) ∧ (∀ k, k < 8 → W_cars u k = enc (cr (a_rd a) k)) ∧ (∀ k, k < 8 → W_riders u k = enc (a_rd a k)) ∧ (∀ k, k < 8 → W_loads u k = nI (a_ld a k)) ∧ W_lowest u = nI (a_ft a) ∧ W_friction u = nI (a_dg a)
