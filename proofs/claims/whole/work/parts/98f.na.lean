/-! chance: sums -/
def ct (fr : Nat → Bool) : Nat → Nat → Nat
  | 0, _ => 0
  | n + 1, i => ct fr n (i + 1) + if fr i = true then 1 else 0
def sF (fr : Nat → Bool) (F : Nat → Nat) : Nat → Nat → Nat
  | 0, _ => 0
  | n + 1, i => (if fr i = true then F i else 0) + sF fr F n (i + 1)
/-- the j-th free one -/
def ow (fr : Nat → Bool) : Nat → Nat → Nat → Nat
  | 0, i, _ => i
  | n + 1, i, j => if fr i = true then (if j = 0 then i else ow fr n (i + 1) (j - 1)) else ow fr n (i + 1) j
def tS (G : Nat → Nat) : Nat → Nat → Nat
  | 0, _ => 0
  | n + 1, i => G i + tS G n (i + 1)
theorem ct_le (fr : Nat → Bool) : ∀ n i, ct fr n i ≤ n
  | 0, _ => Nat.le_refl 0
  | n + 1, i => by
    have := ct_le fr n (i + 1)
    rw [ct]
    by_cases c : fr i = true
    · rw [if_pos c]; omega
    · rw [if_neg c]; omega
theorem ow_ok (fr : Nat → Bool) : ∀ n i j, j < ct fr n i → fr (ow fr n i j) = true ∧ i ≤ ow fr n i j ∧ ow fr n i j < i + n
  | 0, i, j, h => by rw [ct] at h; omega
  | n + 1, i, j, h => by
    rw [ct] at h
    rw [ow]
    by_cases c : fr i = true
    · rw [if_pos c] at h ⊢
      by_cases c2 : j = 0
      · rw [if_pos c2]; exact ⟨c, by omega, by omega⟩
      · rw [if_neg c2]
        have := ow_ok fr n (i + 1) (j - 1) (by omega)
        exact ⟨this.1, by omega, by omega⟩
    · rw [if_neg c] at h ⊢
      have := ow_ok fr n (i + 1) j (by omega)
      exact ⟨this.1, by omega, by omega⟩
theorem tS_add (G : Nat → Nat) : ∀ n m i, tS G (n + m) i = tS G n i + tS G m (i + n)
  | 0, m, i => by rw [Nat.zero_add, tS, Nat.zero_add, Nat.add_zero]
  | n + 1, m, i => by
    rw [show n + 1 + m = (n + m) + 1 by omega, tS, tS, tS_add G n m (i + 1), show i + (n + 1) = i + 1 + n by omega]
    omega
theorem tS_ext {G H : Nat → Nat} : ∀ n i, (∀ j, i ≤ j → j < i + n → G j = H j) → tS G n i = tS H n i
  | 0, _, _ => rfl
  | n + 1, i, h => by
    rw [tS, tS, h i (Nat.le_refl i) (by omega), tS_ext n (i + 1) (fun j h1 h2 => h j (by omega) (by omega))]
theorem tS_shift (G : Nat → Nat) : ∀ n i k, tS G n (i + k) = tS (fun j => G (j + k)) n i
  | 0, _, _ => rfl
  | n + 1, i, k => by
    rw [tS, tS, show i + k + 1 = (i + 1) + k by omega, tS_shift G n (i + 1) k]
theorem tS_mul (x : Nat) (G : Nat → Nat) : ∀ n i, tS (fun j => x * G j) n i = x * tS G n i
  | 0, _ => rfl
  | n + 1, i => by rw [tS, tS, tS_mul x G n (i + 1), Nat.mul_add]
theorem tS_zero {G : Nat → Nat} : ∀ n i, (∀ j, i ≤ j → j < i + n → G j = 0) → tS G n i = 0
  | 0, _, _ => rfl
  | n + 1, i, h => by rw [tS, h i (Nat.le_refl i) (by omega), tS_zero n (i + 1) (fun j h1 h2 => h j (by omega) (by omega))]
theorem tS_block (G : Nat → Nat) (B : Nat) : ∀ k j, tS G (k * B) (j * B) = tS (fun d => tS G B (d * B)) k j
  | 0, j => by rw [Nat.zero_mul]; rfl
  | k + 1, j => by
    rw [Nat.add_mul, Nat.one_mul, Nat.add_comm, tS_add, tS, ← tS_block G B k (j + 1), Nat.add_mul j 1 B, Nat.one_mul]
theorem sF_tS (fr : Nat → Bool) (F : Nat → Nat) : ∀ n i, sF fr F n i = tS (fun j => F (ow fr n i j)) (ct fr n i) 0
  | 0, _ => rfl
  | n + 1, i => by
    rw [sF, ct, sF_tS fr F n (i + 1)]
    by_cases c : fr i = true
    · rw [if_pos c, if_pos c, tS]
      have e1 : ow fr (n + 1) i 0 = i := by rw [ow, if_pos c, if_pos rfl]
      have e2 : tS (fun j => F (ow fr (n + 1) i j)) (ct fr n (i + 1)) (0 + 1) = tS (fun j => F (ow fr n (i + 1) j)) (ct fr n (i + 1)) 0 := by
        rw [tS_shift]
        refine tS_ext _ _ (fun j _ _ => ?_)
        show F (ow fr (n + 1) i (j + 1)) = _
        rw [ow, if_pos c, if_neg (by omega), show j + 1 - 1 = j by omega]
      rw [e2]
      show F i + _ = F (ow fr (n + 1) i 0) + _
      rw [e1]
    · rw [if_neg c, if_neg c, Nat.zero_add, Nat.add_zero]
      refine tS_ext _ _ (fun j _ _ => ?_)
      show F (ow fr n (i + 1) j) = F (ow fr (n + 1) i j)
      rw [ow, if_neg c]
theorem sF_le {fr : Nat → Bool} {F : Nat → Nat} {B : Nat} (h : ∀ q, F q ≤ B) : ∀ n i, sF fr F n i ≤ n * B
  | 0, _ => by rw [sF]; omega
  | n + 1, i => by
    have h1 := sF_le (fr := fr) h n (i + 1)
    have h2 := h i
    rw [sF, Nat.add_mul, Nat.one_mul]
    by_cases c : fr i = true
    · rw [if_pos c]; omega
    · rw [if_neg c]; omega
/-! chance: the shares -/
def lg (a : aW) : aW := a_foot a (aLet a).2
def fre (a : aW) (q : Nat) : Bool := decide (cr (a_rd a) q = 8)
def cs (p : Nat) : Nat → aW → Nat
  | 0, a => if cr (a_rd a) p = a_ft a then 1 else 0
  | d + 1, a => if a_rd a (a_ft a) = 8 ∧ ct (fre a) 8 0 ≠ 0 then 840 / ct (fre a) 8 0 * sF (fre a) (fun q => cs p d (lg (a_seat a (a_ft a) q))) 8 0 else 840 * cs p d (lg a)
theorem cs_le (p : Nat) : ∀ d a, cs p d a ≤ 6720 ^ d
  | 0, a => by
    rw [cs]
    by_cases c : cr (a_rd a) p = a_ft a
    · rw [if_pos c]; decide
    · rw [if_neg c]; exact Nat.zero_le _
  | d + 1, a => by
    rw [cs, Nat.pow_succ]
    by_cases c : a_rd a (a_ft a) = 8 ∧ ct (fre a) 8 0 ≠ 0
    · rw [if_pos c]
      have h1 := sF_le (fr := fre a) (F := fun q => cs p d (lg (a_seat a (a_ft a) q))) (B := 6720 ^ d) (fun q => cs_le p d _) 8 0
      have h2 : 840 / ct (fre a) 8 0 ≤ 840 := Nat.div_le_self _ _
      have h3 := Nat.mul_le_mul h2 h1
      omega
    · rw [if_neg c]
      have h1 := cs_le p d (lg a)
      omega
theorem tu_tu (f : Nat) (x y : Int) : tu (tu f x) y = tu f (x + y) := by unfold tu; omega
theorem tu_0 {f : Nat} (h : f < 8) : tu f 0 = f := by unfold tu; omega
theorem aGo_tu (a : aW) (w : Int) : ∀ n f, f < 8 → (aGo a w n f).2 = tu f (aGo a w n f).1
  | 0, f, h => by rw [aGo]; exact (tu_0 h).symm
  | n + 1, f, h => by
    rw [aGo]
    by_cases c : w ≠ 0 ∧ wy (a_dg a) (aP a f) = w
    · rw [if_pos c]
      show (aGo a w n (tu f w)).2 = tu f ((aGo a w n (tu f w)).1 + w)
      rw [aGo_tu a w n (tu f w) (tu_lt _ _), tu_tu, Int.add_comm]
    · rw [if_neg c]; exact (tu_0 h).symm
theorem lg_ok {a : aW} (ha : okA a) : okA (lg a) := okA_foot ha (aLet_lt ha)
theorem w_wait_L {u : sW} {a : aW} (h : relW u a) : ∀ (n c k : Nat), k ≤ 8 → 8 - k < n → f_X0_waiting_L4 u n (nI c) (nI k) = some (nI (c + ct (fre a) (8 - k) k), ()) := by
  intro n
  induction n with
  | zero => intro c k _ q; omega
  | succ n ih =>
    intro c k hk hn
    rw [f_X0_waiting_L4]
    by_cases e : k = 8
    · subst e
      rw [if_pos (show (8 : Int32) ≤ nI 8 by decide), Nat.sub_self, ct, Nat.add_zero]
    · have hlt : k < 8 := by omega
      rw [if_neg (show ¬ (8 : Int32) ≤ nI k from nI_ge hlt (by decide)), w_isAboard h hlt, Option.bind_some, show 8 - k = (8 - (k + 1)) + 1 by omega, ct, show nI k + (1 : Int32) = nI (k + 1) from nI_1 k]
      by_cases q : cr (a_rd a) k = 8
      · rw [if_pos q, i0, show fre a k = true from decide_eq_true q, if_pos rfl, show nI c + (1 : Int32) = nI (c + 1) from nI_1 c, ih (c + 1) (k + 1) (by omega) (by omega)]
        congr 3; omega
      · rw [if_neg q, i1, show fre a k = false from decide_eq_false q, if_neg (by decide), ih c (k + 1) (by omega) (by omega)]; rfl
theorem w_wait {u : sW} {a : aW} (h : relW u a) : f_X0_waiting u = some (nI (ct (fre a) 8 0), ()) := by
  have := w_wait_L h oF 0 0 (by omega) (by have := oF_ge; omega)
  rw [Nat.zero_add] at this
  exact this
theorem w_sumLetGo {R : sW → Int32 → Int32 → Option (Int64 × sW)} {p d : Nat} (hR : ∀ (b : aW) (u : sW), okA b → relW u b → ∃ u', R u (nI p) (nI d) = some (lN (cs p d b), u') ∧ relW u' b) {b : aW} {u : sW} (hb : okA b) (h : relW u b) : ∃ u', f_X0_sumLetGo R u (nI p) (nI (d + 1)) = some (lN (cs p d (lg b)), u') ∧ relW u' b := by
  obtain ⟨u1, e1, e2⟩ := w_letGo h hb
  obtain ⟨u2, e3, e4⟩ := hR (lg b) u1 (lg_ok hb) e2
  obtain ⟨-, b2, b3⟩ := aBoth_abs b
  obtain ⟨u3, e5, e6⟩ := w_turn e4 (lg_ok hb) (b := -(aLet b).1) (by omega) (by omega)
  refine ⟨u3, ?_, ?_⟩
  · rw [f_X0_sumLetGo, e1, Option.bind_some]
    show (R u1 (nI p) (nI (d + 1) - (1 : Int32))).bind (fun z2 => (f_X9_turn z2.2 (-iI (aLet b).1)).bind _) = _
    rw [show nI (d + 1) - (1 : Int32) = nI d from nI_pred d, e3, Option.bind_some, iI_neg]
    show (f_X9_turn u2 (iI (-(aLet b).1))).bind _ = _
    rw [e5, Option.bind_some]
  · have e7 : tu (a_ft (lg b)) (-(aLet b).1) = a_ft b := by
      show tu (aLet b).2 (-(aLet b).1) = _
      rw [show (aLet b).2 = tu (a_ft b) (aLet b).1 from aGo_tu b _ 8 _ hb.1, tu_tu, show (aLet b).1 + -(aLet b).1 = 0 by omega, tu_0 hb.1]
    rw [e7] at e6
    exact e6
theorem seat_back {a : aW} (h : a_rd a (a_ft a) = 8) (q : Nat) : a_seat (a_seat a (a_ft a) q) (a_ft a) 8 = a := by
  show (a_wt a, un (un (a_rd a) (a_ft a) q) (a_ft a) 8, a_ld a, a_ft a, a_dg a) = a
  rw [un_un, ← h, un_id]
theorem w_sum57 {R : sW → Int32 → Int32 → Option (Int64 × sW)} {p d : Nat} (hR : ∀ (b : aW) (u : sW), okA b → relW u b → ∃ u', R u (nI p) (nI d) = some (lN (cs p d b), u') ∧ relW u' b) {a : aW} (ha : okA a) (hr : a_rd a (a_ft a) = 8) {wt : Nat} (hw0 : 0 < wt) (hw8 : wt ≤ 8) : ∀ (n k acc : Nat) (u : sW), k ≤ 8 → 8 - k < n → relW u a → ∃ u', f_X0_sum_L57 R n (nI p) (nI (d + 1)) (nI wt) (nI (a_ft a)) (lN acc) (nI k) u = some (lN (840 / wt * (acc + sF (fre a) (fun q => cs p d (lg (a_seat a (a_ft a) q))) (8 - k) k)), u') ∧ relW u' a := by
  intro n
  induction n with
  | zero => intro k acc u _ h; omega
  | succ n ih =>
    intro k acc u hk hn h
    rw [f_X0_sum_L57]
    by_cases e : k = 8
    · subst e
      have hd : 840 / wt ≤ 840 := Nat.div_le_self _ _
      rw [if_pos (show (8 : Int32) ≤ nI 8 by decide), if_neg (show ¬ nI wt = (0 : Int32) from nI_ne0 hw0 (by omega)), Nat.sub_self, sF, Nat.add_zero, show (840 : Int32) / nI wt = nI (840 / wt) from pk_div (a := 840) (by omega) hw0 (by omega), nI_l (by omega), lN_mul]
      exact ⟨u, rfl, h⟩
    · have hlt : k < 8 := by omega
      rw [if_neg (show ¬ (8 : Int32) ≤ nI k from nI_ge hlt (by decide)), w_isAboard h hlt, Option.bind_some, show 8 - k = (8 - (k + 1)) + 1 by omega, sF, show nI k + (1 : Int32) = nI (k + 1) from nI_1 k]
      by_cases q : cr (a_rd a) k = 8
      · have hok := okA_seat ha (c := a_ft a) hlt (Or.inl q)
        obtain ⟨u1, e1, e2⟩ := w_seat h ha hlt ha.1 (Or.inl q) (Or.inl hr)
        obtain ⟨u2, e3, e4⟩ := w_sumLetGo hR hok e2
        obtain ⟨u3, e5, e6⟩ := w_unseat e4 hok ha.1
        rw [seat_back hr] at e6
        rw [if_pos q, i0, show fre a k = true from decide_eq_true q, if_pos rfl, e1, Option.bind_some, e3, Option.bind_some]
        show ∃ u', (f_X9_unseat u2 (nI (a_ft a))).bind (fun z14 => f_X0_sum_L57 R n (nI p) (nI (d + 1)) (nI wt) (nI (a_ft a)) (lN acc + lN (cs p d (lg (a_seat a (a_ft a) k)))) (nI (k + 1)) z14) = _ ∧ _
        rw [e5, Option.bind_some, lN_add]
        have := ih (k + 1) (acc + cs p d (lg (a_seat a (a_ft a) k))) u3 (by omega) (by omega) e6
        rw [Nat.add_assoc] at this
        exact this
      · rw [if_neg q, i1, show fre a k = false from decide_eq_false q, if_neg (by decide), Nat.zero_add]
        exact ih (k + 1) acc u (by omega) (by omega) h
theorem w_sum {p : Nat} (hp : p < 8) : ∀ (D d : Nat) (a : aW) (u : sW), d < D → d < 1000 → okA a → relW u a → ∃ u', f_X0_sum D u (nI p) (nI d) = some (lN (cs p d a), u') ∧ relW u' a := by
  intro D
  induction D with
  | zero => intro d a u h; omega
  | succ D ih =>
    intro d a u hdD hd ha h
    rw [f_X0_sum]
    cases d with
    | zero =>
      rw [if_neg (show ¬ (0 : Int32) < nI 0 by decide), w_isLowest h ha hp, Option.bind_some, cs]
      by_cases c : cr (a_rd a) p = a_ft a
      · rw [if_pos c, if_pos c, i1]; exact ⟨u, rfl, h⟩
      · rw [if_neg c, if_neg c, i0]; exact ⟨u, rfl, h⟩
    | succ d =>
      have hR := fun (b : aW) (u1 : sW) (hb : okA b) (h1 : relW u1 b) => ih d b u1 (by omega) (by omega) hb h1
      have h8 := ct_le (fre a) 8 0
      have j34 : ∃ u', f_X0_sum_J34 (f_X0_sum D) (nI p) (nI (d + 1)) u = some (lN (840 * cs p d (lg a)), u') ∧ relW u' a := by
        obtain ⟨u1, e1, e2⟩ := w_sumLetGo hR ha h
        refine ⟨u1, ?_, e2⟩
        rw [f_X0_sum_J34, e1, Option.bind_some]
        show some ((840 : Int64) * lN (cs p d (lg a)), u1) = _
        rw [show (840 : Int64) = lN 840 from rfl, lN_mul]
      rw [if_pos (show (0 : Int32) < nI (d + 1) from nI_lt (a := 0) (by omega) (by omega)), w_wait h, Option.bind_some, w_isTaken h ha, Option.bind_some, cs]
      by_cases c1 : a_rd a (a_ft a) = 8
      · rw [if_pos c1, i0]
        by_cases c2 : ct (fre a) 8 0 = 0
        · rw [if_neg (show ¬ (0 : Int32) < (nI (ct (fre a) 8 0), ()).1 by rw [c2]; decide), if_neg (fun q => q.2 c2)]
          exact j34
        · have ho := oF_ge
          rw [if_pos (show (0 : Int32) < (nI (ct (fre a) 8 0), ()).1 from nI_lt (a := 0) (by omega) (by omega)), if_pos ⟨c1, c2⟩, f_X9_lowest, Option.bind_some]
          show ∃ u', f_X0_sum_L57 (f_X0_sum D) oF (nI p) (nI (d + 1)) (nI (ct (fre a) 8 0)) (W_lowest u) 0 0 u = _ ∧ _
          rw [show W_lowest u = nI (a_ft a) from h.2.2.2.2.1]
          have := w_sum57 hR ha c1 (wt := ct (fre a) 8 0) (by omega) h8 oF 0 0 u (by omega) (by omega) h
          rw [Nat.zero_add] at this
          exact this
      · rw [if_neg c1, i1, if_neg (fun q => c1 q.1)]
        exact j34
theorem w_shares {p : Nat} (hp : p < 8) {d : Nat} (hd : d ≤ 3) {a : aW} {u : sW} (ha : okA a) (h : relW u a) : ∃ u', f_X0_shares u (nI p) (nI d) = some (lN (cs p d a), u') ∧ relW u' a := by
  obtain ⟨u', e1, e2⟩ := w_sum hp 4 d a u (by omega) (by omega) ha h
  refine ⟨u', ?_, e2⟩
  rw [f_X0_shares, if_neg (nI_pos (by omega)), if_pos (show nI d ≤ (3 : Int32) from nI_le (b := 3) hd (by decide)), e1, Option.bind_some]
theorem w_all_L {d : Nat} (hd : d ≤ 3) : ∀ (n k : Nat), k ≤ d → d - k < n → f_X0_allShares_L4 n (nI d) (lN (840 ^ k)) (nI k) = some (lN (840 ^ d), ()) := by
  intro n
  induction n with
  | zero => intro k _ q; omega
  | succ n ih =>
    intro k hk hn
    rw [f_X0_allShares_L4]
    by_cases e : k = d
    · rw [e, if_pos (nI_le (Nat.le_refl d) (by omega))]
    · rw [if_neg (nI_ge (by omega) (by omega)), if_neg (show ¬ (3 : Int32) ≤ nI k from nI_ge (b := 3) (by omega) (by decide)), show (840 : Int64) = lN 840 from rfl, lN_mul, ← Nat.pow_succ, show nI k + (1 : Int32) = nI (k + 1) from nI_1 k]
      exact ih (k + 1) (by omega) (by omega)
theorem w_all {d : Nat} (hd : d ≤ 3) : f_X0_allShares (nI d) = some (lN (840 ^ d), ()) := w_all_L hd oF 0 (Nat.zero_le _) (by have := oF_ge; omega)
/-! the greatest divisor -/
theorem half {a b : Nat} (hb : 0 < b) (hr : a % b ≠ 0) : b % (a % b) < (b + 1) / 2 := by
  have h1 := Nat.mod_lt a hb
  have h2 := Nat.mod_lt b (Nat.pos_of_ne_zero hr)
  rcases Nat.lt_or_ge (2 * (a % b)) (b + 1) with h | h
  · omega
  · have h3 : b % (a % b) = b - (a % b) := by
      rw [Nat.mod_eq_sub_mod (by omega), Nat.mod_eq_of_lt (by omega)]
    omega
theorem gcd_w : ∀ (j a b i n : Nat), b < 2 ^ j → a < 2 ^ 62 → b < 2 ^ 62 → i + 2 * j ≤ 127 → 2 * j < n → f_X10_greatestDivisor_L9 n (lN a) (lN b) (nI i) = some (lN (Nat.gcd b a), ()) := by
  intro j
  induction j with
  | zero =>
    intro a b i n hb ha1 hb1 hi hn
    have : b = 0 := by omega
    subst this
    obtain ⟨n', rfl⟩ : ∃ z, n = z + 1 := ⟨n - 1, by omega⟩
    rw [f_X10_greatestDivisor_L9, if_neg (show ¬ (128 : Int32) ≤ nI i from nI_ge (b := 128) (by omega) (by decide)), if_pos (show lg_cmp (lN 0) (0 : Int64) = 0 from (lg_cmp_eq _ _).mpr rfl), Nat.gcd_zero_left]
  | succ j ih =>
    intro a b i n hb ha1 hb1 hi hn
    obtain ⟨n', rfl⟩ : ∃ z, n = z + 1 := ⟨n - 1, by omega⟩
    rw [f_X10_greatestDivisor_L9, if_neg (show ¬ (128 : Int32) ≤ nI i from nI_ge (b := 128) (by omega) (by decide))]
    by_cases c : b = 0
    · subst c
      rw [if_pos (show lg_cmp (lN 0) (0 : Int64) = 0 from (lg_cmp_eq _ _).mpr rfl), Nat.gcd_zero_left]
    · have n0 : ¬ lN b = (0 : Int64) := fun q => c ((pk_lEQ (b := 0) (by omega) (by omega)).mp q)
      have hm := Nat.mod_lt a (Nat.pos_of_ne_zero c)
      rw [if_neg (fun q => n0 ((lg_cmp_eq _ _).mp q)), if_neg n0, pk_lRem (by omega) (by omega) (by omega), Nat.gcd_rec b a, show nI i + (1 : Int32) = nI (i + 1) from nI_1 i]
      obtain ⟨n'', rfl⟩ : ∃ z, n' = z + 1 := ⟨n' - 1, by omega⟩
      rw [f_X10_greatestDivisor_L9, if_neg (show ¬ (128 : Int32) ≤ nI (i + 1) from nI_ge (b := 128) (by omega) (by decide))]
      by_cases c2 : a % b = 0
      · rw [c2, if_pos (show lg_cmp (lN 0) (0 : Int64) = 0 from (lg_cmp_eq _ _).mpr rfl), Nat.gcd_zero_left]
      · have n1 : ¬ lN (a % b) = (0 : Int64) := fun q => c2 ((pk_lEQ (b := 0) (by omega) (by omega)).mp q)
        have hh := half (Nat.pos_of_ne_zero c) c2
        rw [if_neg (fun q => n1 ((lg_cmp_eq _ _).mp q)), if_neg n1, pk_lRem (by omega) (by omega) (by omega), Nat.gcd_rec (a % b) b, show nI (i + 1) + (1 : Int32) = nI (i + 2) from nI_1 _]
        rw [Nat.pow_succ] at hb
        exact ih (a % b) (b % (a % b)) (i + 2) n'' (by omega) (by omega) (by omega) (by omega) (by omega)
theorem gcd_x {v3 : Int32} {v4 v6 : Int64} (m : sM) : ∀ (j a b n : Nat), b < 2 ^ j → a < 2 ^ 62 → b < 2 ^ 62 → 2 * j < n → f_X11_chance_L290 n v3 v4 v6 (lN a) (lN b) m = (if v3 = 0 then (if lN (Nat.gcd b a) = 0 then none else some (v4 / lN (Nat.gcd b a), m)) else (if lN (Nat.gcd b a) = 0 then none else some (v6 / lN (Nat.gcd b a), m))) := by
  intro j
  induction j with
  | zero =>
    intro a b n hb ha1 hb1 hn
    have : b = 0 := by omega
    subst this
    obtain ⟨n', rfl⟩ : ∃ z, n = z + 1 := ⟨n - 1, by omega⟩
    rw [f_X11_chance_L290, if_pos (show lg_cmp (lN 0) (0 : Int64) = 0 from (lg_cmp_eq _ _).mpr rfl), Nat.gcd_zero_left]
  | succ j ih =>
    intro a b n hb ha1 hb1 hn
    obtain ⟨n', rfl⟩ : ∃ z, n = z + 1 := ⟨n - 1, by omega⟩
    rw [f_X11_chance_L290]
    by_cases c : b = 0
    · subst c
      rw [if_pos (show lg_cmp (lN 0) (0 : Int64) = 0 from (lg_cmp_eq _ _).mpr rfl), Nat.gcd_zero_left]
    · have n0 : ¬ lN b = (0 : Int64) := fun q => c ((pk_lEQ (b := 0) (by omega) (by omega)).mp q)
      have hm := Nat.mod_lt a (Nat.pos_of_ne_zero c)
      rw [if_neg (fun q => n0 ((lg_cmp_eq _ _).mp q)), if_neg n0, pk_lRem (by omega) (by omega) (by omega), Nat.gcd_rec b a]
      obtain ⟨n'', rfl⟩ : ∃ z, n' = z + 1 := ⟨n' - 1, by omega⟩
      rw [f_X11_chance_L290]
      by_cases c2 : a % b = 0
      · rw [c2, if_pos (show lg_cmp (lN 0) (0 : Int64) = 0 from (lg_cmp_eq _ _).mpr rfl), Nat.gcd_zero_left]
      · have n1 : ¬ lN (a % b) = (0 : Int64) := fun q => c2 ((pk_lEQ (b := 0) (by omega) (by omega)).mp q)
        have hh := half (Nat.pos_of_ne_zero c) c2
        rw [if_neg (fun q => n1 ((lg_cmp_eq _ _).mp q)), if_neg n1, pk_lRem (by omega) (by omega) (by omega), Nat.gcd_rec (a % b) b]
        rw [Nat.pow_succ] at hb
        exact ih (a % b) (b % (a % b)) n'' (by omega) (by omega) (by omega) (by omega)
