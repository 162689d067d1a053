/-! down: both loops -/
abbrev dK1 : Type := Int32 → Int32 → Int32 → sM → Option (Int32 × sM)
theorem pow18 {r : Nat} (h : r ≤ 3) : 1 ≤ 18 ^ r ∧ 18 ^ r ≤ 5832 := by
  rcases (show r = 0 ∨ r = 1 ∨ r = 2 ∨ r = 3 by omega) with q | q | q | q <;> rw [q] <;> decide
theorem x_digits {K1 : dK1} {K2 : fK} {p : Nat} {what v4 : Int32} {mo c : Nat} (hmo : mo ≤ 3) (hc : c < 5832) : ∀ (n r : Nat) (m : sM) (a : aW), r ≤ mo → r < n → okA a → relM m a → ∃ g m', f_X11_down_L98 K1 K2 n (nI p) what (nI mo) v4 (nI c) (nI (18 ^ r)) 1 (nI (mo - r)) m = f_X11_down_J136 K1 K2 (nI p) what (nI mo) v4 (nI c) g m' ∧ pM m m' ∧ ((g = 0 ∧ gB p r a (c % 18 ^ r) = false) ∨ (g = 1 ∧ ∃ b, okA b ∧ relM m' b ∧ gB p r a (c % 18 ^ r) = decide (cr (a_rd b) p = a_ft b))) := by
  intro n
  induction n with
  | zero => intro r m a _ h; omega
  | succ n ih =>
    intro r m a hr hn ha hm
    rw [f_X11_down_L98]
    cases r with
    | zero =>
      rw [if_pos (show nI mo ≤ nI (mo - 0) from nI_le (by omega) (by omega))]
      exact ⟨1, m, rfl, pM.rf m, Or.inr ⟨rfl, a, ha, hm, rfl⟩⟩
    | succ r =>
      have hp := pow18 (show r ≤ 3 by omega)
      have e1 : nI (18 ^ (r + 1)) / (18 : Int32) = nI (18 ^ r) := by
        have h2 := pow18 (show r + 1 ≤ 3 by omega)
        rw [show nI (18 ^ (r + 1)) / (18 : Int32) = nI (18 ^ (r + 1) / 18) from pk_div (d := 18) (by omega) (by decide) (by decide), Nat.pow_succ, Nat.mul_div_cancel _ (by decide)]
      have e2 : nI c / nI (18 ^ r) - nI c / nI (18 ^ r) / (18 : Int32) * (18 : Int32) = nI (c / 18 ^ r % 18) := by
        rw [pk_div (by omega) (by omega) (by omega), show nI (c / 18 ^ r) - nI (c / 18 ^ r) / (18 : Int32) * (18 : Int32) = nI (c / 18 ^ r % 18) from pk_rem (d := 18) (Nat.lt_of_le_of_lt (Nat.div_le_self _ _) (by omega)) (by decide) (by decide)]
      have e3 : c % 18 ^ (r + 1) / 18 ^ r = c / 18 ^ r % 18 := by
        rw [Nat.pow_succ]; exact Nat.mod_mul_right_div_self _ _ _
      have e4 : c % 18 ^ (r + 1) % 18 ^ r = c % 18 ^ r := Nat.mod_mod_of_dvd _ ⟨18, Nat.pow_succ 18 r⟩
      have e5 : nI (mo - (r + 1)) + (1 : Int32) = nI (mo - r) := by
        rw [show nI (mo - (r + 1)) + (1 : Int32) = nI (mo - (r + 1) + 1) from nI_1 _]
        congr 1; omega
      have hd : c / 18 ^ r % 18 < 18 := Nat.mod_lt _ (by decide)
      rw [if_neg (nI_ge (by omega) (by omega)), if_neg (show ¬ (1 : Int32) = 0 by decide), e1, if_neg (show ¬ nI (18 ^ r) = (0 : Int32) from nI_ne0 (by omega) (by omega)), e2, e5, gB, e3, e4]
      obtain ⟨m1, k1, k2⟩ := x_move hm ha hd
      rcases k2 with ⟨k3, k4, k5⟩ | ⟨k3, k4⟩
      · rw [k4, Option.bind_some, k3]
        obtain ⟨q1, q2⟩ := vc_cb k3
        obtain ⟨g, m', q3, q4, q5⟩ := ih r m1 (mk a (dmv (c / 18 ^ r % 18))) (by omega) (by omega) (mk_ok ha q1 (dmv_lt hd)) k5
        refine ⟨g, m', q3, k1.tr q4, ?_⟩
        rw [Bool.true_and]
        exact q5
      · rw [k4, Option.bind_some, k3, Bool.false_and]
        refine ⟨0, m1, ?_, k1, Or.inl ⟨rfl, rfl⟩⟩
        obtain ⟨n', rfl⟩ : ∃ z, n = z + 1 := ⟨n - 1, by omega⟩
        show f_X11_down_L98 K1 K2 (n' + 1) (nI p) what (nI mo) v4 (nI c) (nI (18 ^ r)) 0 (nI (mo - r)) m1 = _
        rw [f_X11_down_L98]
        by_cases c3 : nI mo ≤ nI (mo - r)
        · rw [if_pos c3]
        · rw [if_neg c3, if_pos rfl]
def dAns (what : Int32) (k d : Nat) : Int32 := if what = 0 then nI k else if what = 1 then nI (d % 2) else if d / 2 = 8 then -6 else nI (d / 2)
theorem x_codes {K1 : dK1} {m0 : sM} {a : aW} (ha : okA a) (h0 : rel0 m0 a) {p k : Nat} (hp : p < 8) (hk : k < 3) (what : Int32) : ∀ (n c : Nat) (m : sM), c ≤ 18 ^ (k + 1) → 18 ^ (k + 1) - c < n → pM m0 m → ∃ m', pM m0 m' ∧ f_X11_down_L77 K1 n (nI p) what (nI (k + 1)) (nI (18 ^ (k + 1))) (nI c) m = (if lst (gB p (k + 1) a) (18 ^ (k + 1) - c) c < 18 ^ (k + 1) then some (dAns what (k + 1) (lst (gB p (k + 1) a) (18 ^ (k + 1) - c) c / 18 ^ k), m') else K1 (nI p) what (nI (k + 1) + 1) m') := by
  have hp1 := pow18 (show k + 1 ≤ 3 by omega)
  have hp2 := pow18 (show k ≤ 3 by omega)
  have ho := oF_ge
  intro n
  induction n with
  | zero => intro c m _ h; omega
  | succ n ih =>
    intro c m hc hn hpm
    rw [f_X11_down_L77]
    by_cases e : c = 18 ^ (k + 1)
    · refine ⟨m, hpm, ?_⟩
      rw [if_pos (show nI (18 ^ (k + 1)) ≤ nI c from nI_le (by omega) (by omega)), e, Nat.sub_self, lst, if_neg (Nat.lt_irrefl _)]
    · have hlt : c < 18 ^ (k + 1) := by omega
      obtain ⟨m1, k1, k2, k3, -⟩ := x_asNow (h0.p hpm)
      obtain ⟨g, m2, k4, k5, k6⟩ := x_digits (K1 := K1) (K2 := f_X11_down_L77 K1 n) (p := p) (what := what) (v4 := nI (18 ^ (k + 1))) (mo := k + 1) (c := c) (by omega) (by omega) oF (k + 1) m1 a (by omega) (by omega) ha k3
      rw [Nat.sub_self, Nat.mod_eq_of_lt hlt] at *
      have k4 : f_X11_down_L98 K1 (f_X11_down_L77 K1 n) oF (nI p) what (nI (k + 1)) (nI (18 ^ (k + 1))) (nI c) (nI (18 ^ (k + 1))) 1 0 m1 = _ := k4
      have hpm2 := hpm.tr (k2.tr k5)
      rw [if_neg (nI_ge hlt (by omega)), k1, Option.bind_some, k4, f_X11_down_J136, show 18 ^ (k + 1) - c = (18 ^ (k + 1) - (c + 1)) + 1 by omega, lst, show nI c + (1 : Int32) = nI (c + 1) from nI_1 c]
      rcases k6 with ⟨rfl, k7⟩ | ⟨rfl, b, hb, k8, k9⟩
      · rw [if_pos rfl, k7, if_neg (show ¬ false = true by decide)]
        exact ih (c + 1) m2 (by omega) (by omega) hpm2
      · have hle := cr_le (a_rd b) p
        rw [if_neg (show ¬ (1 : Int32) = 0 by decide), x_carOf k8 hb hp, Option.bind_some, show M_foot m2 = nI (a_ft b) from k8.2.2.2.1, k9]
        show ∃ m', _ ∧ (if enc (cr (a_rd b) p) = nI (a_ft b) then _ else _) = _
        by_cases c2 : cr (a_rd b) p = a_ft b
        · refine ⟨m2, hpm2, ?_⟩
          have e1 : nI (k + 1) - (1 : Int32) = nI k := nI_pred k
          have hdk : c / 18 ^ k ≤ c := Nat.div_le_self _ _
          rw [if_pos ((encF hb hle).mpr c2), if_pos (decide_eq_true c2), if_pos hlt, e1, show (18 : Int32) = nI 18 from rfl, x_pow 18 (by omega), Option.bind_some]
          show (if nI (18 ^ k) = 0 then _ else if what = 0 then _ else if what = 1 then some (nI c / nI (18 ^ k) - nI c / nI (18 ^ k) / 2 * 2, m2) else if nI c / nI (18 ^ k) / 2 = 8 then _ else some (nI c / nI (18 ^ k) / 2, m2)) = _
          rw [if_neg (show ¬ nI (18 ^ k) = (0 : Int32) from nI_ne0 (by omega) (by omega)), pk_div (by omega) (by omega) (by omega), show nI (c / 18 ^ k) - nI (c / 18 ^ k) / (2 : Int32) * (2 : Int32) = nI (c / 18 ^ k % 2) from pk_rem (d := 2) (by omega) (by decide) (by decide), show nI (c / 18 ^ k) / (2 : Int32) = nI (c / 18 ^ k / 2) from pk_div (d := 2) (by omega) (by decide) (by decide)]
          unfold dAns
          by_cases w0 : what = 0
          · rw [if_pos w0, if_pos w0]
          · rw [if_neg w0, if_neg w0]
            by_cases w1 : what = 1
            · rw [if_pos w1, if_pos w1]
            · rw [if_neg w1, if_neg w1]
              by_cases w8 : c / 18 ^ k / 2 = 8
              · rw [if_pos (show nI (c / 18 ^ k / 2) = (8 : Int32) by rw [w8]; rfl), if_pos w8]
              · rw [if_neg (show ¬ nI (c / 18 ^ k / 2) = (8 : Int32) from fun q => w8 ((nI_eq (b := 8) (by omega) (by omega)).mp q)), if_neg w8]
        · rw [if_neg (fun q => c2 ((encF hb hle).mp q)), if_neg (fun q => c2 (of_decide_eq_true q))]
          exact ih (c + 1) m2 (by omega) (by omega) hpm2
theorem tellMove_a {w : sW} {a : aW} (h : relW w a) (ha : okA a) {mv : Nat} (hm : mv < 10) (hc : cb a mv = true) {x k : Nat} (hx1 : 1 ≤ x) (hx : x ≤ 2) : f_X10_tellMove w (nI mv) (nI x) = some (dAns (nI x) k (cm a mv), ()) := by
  have ht := tk_le a
  rw [f_X10_tellMove]
  unfold dAns
  rw [if_neg (show ¬ nI x = (0 : Int32) from nI_ne0 (by omega) (by omega))]
  rcases (show x = 1 ∨ x = 2 by omega) with rfl | rfl
  · rw [if_pos (show nI 1 = (1 : Int32) from rfl), if_pos (show nI 1 = (1 : Int32) from rfl), f_X3_getsOut]
    unfold cm
    by_cases h8 : mv = 8
    · rw [if_pos (show nI mv = (8 : Int32) by rw [h8]; rfl), Option.bind_some, i0, h8, if_neg (show ¬ 8 < 8 by decide)]; rfl
    · rw [if_neg (show ¬ nI mv = (8 : Int32) from fun q => h8 ((nI_eq (b := 8) (by omega) (by omega)).mp q)), w_isTaken h ha, Option.bind_some]
      by_cases hlt : mv < 8
      · rw [if_pos hlt, show (2 * mv + tk a) % 2 = tk a by omega]
        unfold tk
        by_cases c : a_rd a (a_ft a) = 8
        · rw [if_pos c, i0, Option.bind_some, i0, if_pos c]; rfl
        · rw [if_neg c, i1, Option.bind_some, i1, if_neg c]; rfl
      · have h9 : mv = 9 := by omega
        have c : a_rd a (a_ft a) ≠ 8 := by
          unfold cb at hc
          rw [if_neg h8, if_pos h9] at hc
          exact of_decide_eq_true hc
        rw [if_neg hlt, if_neg c, i1, Option.bind_some, i1, h9]; rfl
  · rw [if_neg (show ¬ nI 2 = (1 : Int32) by decide), if_neg (show ¬ nI 2 = (1 : Int32) by decide)]
    unfold cm
    by_cases hlt : mv < 8
    · rw [person_lt hlt, Option.bind_some, i1, if_pos hlt, if_neg (by omega), show (2 * mv + tk a) / 2 = mv by omega]
    · rw [person_ge (by omega) (by omega), Option.bind_some, i0, if_neg hlt, if_pos (by omega)]
theorem down_L {w : sW} {m0 : sM} {a : aW} (ha : okA a) (hw : relW w a) (h0 : rel0 m0 a) {p : Nat} (hp : p < 8) {x : Nat} (hx : x ≤ 2) : ∀ (n k : Nat) (t : sW) (m : sM), k ≤ 3 → 3 - k < n → relW t a → pM m0 m → ∃ r t' m', f_X10_down_L70 w n (nI p) (nI x) (nI (k + 1)) t = some (r, t') ∧ f_X11_down_L61 n (nI p) (nI x) (nI (k + 1)) m = some (r, m') ∧ pM m0 m' := by
  have ho := oF_ge
  intro n
  induction n with
  | zero => intro k t m _ h; omega
  | succ n ih =>
    intro k t m hk hn ht hpm
    rw [f_X10_down_L70, f_X11_down_L61]
    by_cases e : k = 3
    · subst e
      rw [if_pos (show (3 : Int32) < nI (3 + 1) by decide), if_pos (show (4 : Int32) ≤ nI (3 + 1) by decide)]
      exact ⟨_, _, _, rfl, rfl, hpm⟩
    · have hlt : k < 3 := by omega
      have hp1 := pow18 (show k + 1 ≤ 3 by omega)
      obtain ⟨t1, e1, e2⟩ := w_first hp hlt ha ht
      obtain ⟨m1, e3, e4⟩ := x_codes (K1 := f_X11_down_L61 n) ha h0 hp hlt (nI x) oF 0 m (Nat.zero_le _) (by omega) hpm
      have e4 : f_X11_down_L77 (f_X11_down_L61 n) oF (nI p) (nI x) (nI (k + 1)) (nI (18 ^ (k + 1))) 0 m = _ := e4
      rw [Nat.sub_zero] at e4
      obtain ⟨f1, f2⟩ := first_code p k a
      rw [if_neg (show ¬ (3 : Int32) < nI (k + 1) from nI_nlt (a := 3) (by omega) (by decide)), if_neg (show ¬ (4 : Int32) ≤ nI (k + 1) from nI_ge (b := 4) (by omega) (by decide)), e1, Option.bind_some, show (18 : Int32) = nI 18 from rfl, x_pow 18 (show k + 1 < 1000 by omega), Option.bind_some, e4, show nI (k + 1) + (1 : Int32) = nI (k + 1 + 1) from nI_1 _]
      by_cases c : sm p k a < 10
      · have hc : cb a (sm p k a) = true := by
          have hq := lst_yes (qB p k a) 10 0 (by unfold sm at c; omega)
          change qB p k a (sm p k a) = true at hq
          unfold qB at hq
          rw [Bool.and_eq_true] at hq
          exact hq.1
        rw [if_neg (show ¬ (mvI (sm p k a), t1).1 = -6 from fun q => (mvI_no.mp q) c), if_pos (f1.mpr c), f2 c]
        by_cases x0 : x = 0
        · rw [if_pos (show nI x = (0 : Int32) by rw [x0]; rfl)]
          refine ⟨_, _, _, rfl, ?_, e3⟩
          unfold dAns
          rw [if_pos (show nI x = (0 : Int32) by rw [x0]; rfl)]
        · rw [if_neg (show ¬ nI x = (0 : Int32) from nI_ne0 (by omega) (by omega))]
          show ∃ r t' m', (f_X10_tellMove w (mvI (sm p k a)) (nI x)).bind _ = _ ∧ _
          rw [mvI_lt c, tellMove_a hw ha c hc (k := k + 1) (by omega) hx, Option.bind_some]
          exact ⟨_, _, _, rfl, rfl, e3⟩
      · rw [if_pos (show (mvI (sm p k a), t1).1 = -6 from mvI_no.mpr c), if_neg (fun q => c (f1.mp q))]
        exact ih (k + 1) t1 m1 (by omega) (by omega) e2 e3
theorem c_down {w : sW} {u : sP} {v : sS} {j1 j2 : sI} {m : sM} (I : Inv w u v j1 j2 m) (t : sW) (p x : Int32) : ∃ r t' m', f_X10_down w t p x = some (r, t') ∧ f_X11_down m p x = some (r, m') ∧ Inv w u v j1 j2 m' := by
  obtain ⟨⟨a, ha, hw, h0⟩, -⟩ := id I
  have ho := oF_ge
  unfold f_X10_down f_X11_down
  rcases per_c p with ⟨k, hk, rfl, q1, -, q3⟩ | ⟨-, q1, -, q3⟩
  · rw [q1, q3, Option.bind_some, Option.bind_some, i1, i1]
    rcases rng x (lo := 0) (hi := 2) 0 2 rfl rfl (by omega) (by omega) with ⟨r1, r2⟩ | ⟨r1, r2, -, r3⟩ | ⟨r1, r2, -, r3, y, -, hy, rfl⟩
    · rw [if_pos r1, r2, Option.bind_some, i0]; exact ⟨_, _, _, rfl, rfl, I⟩
    · rw [if_neg r1, if_neg r2, r3, Option.bind_some, i0]; exact ⟨_, _, _, rfl, rfl, I⟩
    · obtain ⟨m1, k1, k2, k3, -⟩ := x_asNow h0
      have hle := cr_le (a_rd a) k
      have k4 := x_carOf k3 ha hk
      rw [if_neg r1, if_pos r2, r3, Option.bind_some, i1, k1, Option.bind_some, k4, Option.bind_some, Option.bind_some, w_isAboard hw hk, Option.bind_some, show M_foot m1 = nI (a_ft a) from k3.2.2.2.1]
      show ∃ r t' m', _ ∧ (if 0 ≤ enc (cr (a_rd a) k) then (if enc (cr (a_rd a) k) = nI (a_ft a) then _ else _) else _) = _ ∧ _
      by_cases c : cr (a_rd a) k = 8
      · rw [if_pos c, i0, if_neg (fun q => (enc_ge hle).mp q c)]
        exact ⟨_, _, _, rfl, rfl, I.p k2⟩
      · rw [if_neg c, i1, if_pos ((enc_ge hle).mpr c), w_isLowest hw ha hk, Option.bind_some]
        by_cases c2 : cr (a_rd a) k = a_ft a
        · rw [if_pos c2, i1, if_pos ((encF ha hle).mpr c2)]
          by_cases x0 : nI y = 0
          · rw [if_pos x0, if_pos x0]; exact ⟨_, _, _, rfl, rfl, I.p k2⟩
          · rw [if_neg x0, if_neg x0]; exact ⟨_, _, _, rfl, rfl, I.p k2⟩
        · obtain ⟨t1, e1, e2⟩ := w_copyFrom hw t
          rw [if_neg c2, i0, if_neg (fun q => c2 ((encF ha hle).mp q)), e1, Option.bind_some]
          obtain ⟨r, t', m', g1, g2, g3⟩ := down_L ha hw h0 hk hy oF 0 t1 m1 (by omega) (by omega) e2 k2
          exact ⟨r, t', m', g1, g2, I.p g3⟩
  · rw [q1, q3, Option.bind_some, Option.bind_some, i0, i0]
    exact ⟨_, _, _, rfl, rfl, I⟩
