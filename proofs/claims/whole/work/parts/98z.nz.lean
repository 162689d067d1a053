/-! THE LAW'S LOOP, both sides together -/
set_option maxHeartbeats 4000000 in
theorem law_L {L : Nat} {xs : Nat → Int32} (hL : L ≤ 256) : ∀ (n i : Nat) (w t : sW) (u : sP) (v : sS) (tl : sT) (g : sG) (us : sU) (j1 j2 : sI) (m : sM), L - i < n → i ≤ L + 4 → Inv w u v j1 j2 m → f_L_law_L18 L xs n (nI i) w t u v tl g us j1 j2 m = some 1 := by
  intro n
  induction n with
  | zero => intro i w t u v tl g us j1 j2 m h; omega
  | succ n ih =>
    intro i w t u v tl g us j1 j2 m hn hi I
    rw [f_L_law_L18]
    have hlt : (Int32.ofNat L - (4 : Int32) < nI i) ↔ ¬ i + 4 ≤ L := by
      rw [show Int32.ofNat L = iI (L : Int) from iI_nI L, show (4 : Int32) = iI 4 from rfl, iI_sub, iI_nI i, iI_lt (by omega) (by omega) (by omega) (by omega)]
      omega
    by_cases e : i + 4 ≤ L
    · have e1 : nI i + (1 : Int32) = nI (i + 1) := nI_1 i
      have e2 : nI i + (2 : Int32) = nI (i + 2) := nI_add i 2
      have e3 : nI i + (3 : Int32) = nI (i + 3) := nI_add i 3
      have e4 : nI i + (4 : Int32) = nI (i + 4) := nI_add i 4
      have g0 : ¬ (nI i < 0 ∨ L ≤ (nI i).toNatClampNeg) := nI_ok (by omega) (by omega)
      have g1 : ¬ (nI i + (1 : Int32) < 0 ∨ L ≤ (nI i + (1 : Int32)).toNatClampNeg) := by rw [e1]; exact nI_ok (by omega) (by omega)
      have g2 : ¬ (nI i + (2 : Int32) < 0 ∨ L ≤ (nI i + (2 : Int32)).toNatClampNeg) := by rw [e2]; exact nI_ok (by omega) (by omega)
      have g3 : ¬ (nI i + (3 : Int32) < 0 ∨ L ≤ (nI i + (3 : Int32)).toNatClampNeg) := by rw [e3]; exact nI_ok (by omega) (by omega)
      rw [if_neg (fun q => (hlt.mp q) e), if_neg g0]
      by_cases c0 : xs (nI i).toNatClampNeg &&& (31 : Int32) = 0
      · obtain ⟨r, w', m', h1, h2, I'⟩ := c_weigh I (xs (nI i + (1 : Int32)).toNatClampNeg) (xs (nI i + (2 : Int32)).toNatClampNeg)
        rw [if_pos c0, if_neg g1, if_neg g2, h1, Option.bind_some, if_neg g1, if_neg g2, h2, Option.bind_some, if_pos rfl, e4]
        exact ih (i + 4) w' t u v tl g us j1 j2 m' (by omega) (by omega) I'
      rw [if_neg c0]
      by_cases c1 : xs (nI i).toNatClampNeg &&& (31 : Int32) = 1
      · obtain ⟨r, w', m', h1, h2, I'⟩ := c_drag I (xs (nI i + (1 : Int32)).toNatClampNeg)
        rw [if_pos c1, if_neg g1, h1, Option.bind_some, if_neg g1, h2, Option.bind_some, if_pos rfl, e4]
        exact ih (i + 4) w' t u v tl g us j1 j2 m' (by omega) (by omega) I'
      rw [if_neg c1]
      by_cases c2 : xs (nI i).toNatClampNeg &&& (31 : Int32) = 2
      · obtain ⟨r, u', m', h1, h2, I'⟩ := c_say I (xs (nI i + (1 : Int32)).toNatClampNeg)
        rw [if_pos c2, if_neg g1, h1, Option.bind_some, if_neg g1, h2, Option.bind_some, if_pos rfl, e4]
        exact ih (i + 4) w t u' v tl g us j1 j2 m' (by omega) (by omega) I'
      rw [if_neg c2]
      by_cases c3 : xs (nI i).toNatClampNeg &&& (31 : Int32) = 3
      · obtain ⟨r, u', m', h1, h2, I'⟩ := c_wipe I
        rw [if_pos c3, h1, Option.bind_some, h2, Option.bind_some, if_pos rfl, e4]
        exact ih (i + 4) w t u' v tl g us j1 j2 m' (by omega) (by omega) I'
      rw [if_neg c3]
      by_cases c4 : xs (nI i).toNatClampNeg &&& (31 : Int32) = 4
      · obtain ⟨r, h1, h2⟩ := c_fault I
        rw [if_pos c4, h1, Option.bind_some, h2, Option.bind_some, if_pos rfl, e4]
        exact ih (i + 4) w t u v tl g us j1 j2 m (by omega) (by omega) I
      rw [if_neg c4]
      by_cases c5 : xs (nI i).toNatClampNeg &&& (31 : Int32) = 5
      · obtain ⟨r, tl', m', h1, h2, I'⟩ := c_judge I tl (xs (nI i + (1 : Int32)).toNatClampNeg)
        rw [if_pos c5, if_neg g1, h1, Option.bind_some, if_neg g1, h2, Option.bind_some, if_pos rfl, e4]
        exact ih (i + 4) w t u v tl' g us j1 j2 m' (by omega) (by omega) I'
      rw [if_neg c5]
      by_cases c6 : xs (nI i).toNatClampNeg &&& (31 : Int32) = 6
      · obtain ⟨r, w', u', tl', m', h1, h2, I'⟩ := c_done I tl
        rw [if_pos c6, h1, Option.bind_some, h2, Option.bind_some, if_pos rfl, e4]
        exact ih (i + 4) w' t u' v tl' g us j1 j2 m' (by omega) (by omega) I'
      rw [if_neg c6]
      by_cases c7 : xs (nI i).toNatClampNeg &&& (31 : Int32) = 7
      · obtain ⟨r, h1, h2⟩ := c_foot I
        rw [if_pos c7, h1, Option.bind_some, h2, Option.bind_some, if_pos rfl, e4]
        exact ih (i + 4) w t u v tl g us j1 j2 m (by omega) (by omega) I
      rw [if_neg c7]
      by_cases c8 : xs (nI i).toNatClampNeg &&& (31 : Int32) = 8
      · obtain ⟨r, h1, h2⟩ := c_car I (xs (nI i + (1 : Int32)).toNatClampNeg) (xs (nI i + (2 : Int32)).toNatClampNeg)
        rw [if_pos c8, if_neg g1, if_neg g2, h1, Option.bind_some, if_neg g1, if_neg g2, h2, Option.bind_some, if_pos rfl, e4]
        exact ih (i + 4) w t u v tl g us j1 j2 m (by omega) (by omega) I
      rw [if_neg c8]
      by_cases c9 : xs (nI i).toNatClampNeg &&& (31 : Int32) = 9
      · obtain ⟨r, m', h1, h2, I'⟩ := c_pull I
        rw [if_pos c9, h1, Option.bind_some, h2, Option.bind_some, if_pos rfl, e4]
        exact ih (i + 4) w t u v tl g us j1 j2 m' (by omega) (by omega) I'
      rw [if_neg c9]
      by_cases c10 : xs (nI i).toNatClampNeg &&& (31 : Int32) = 10
      · obtain ⟨r, tl', m', h1, h2, I'⟩ := c_behind I tl (xs (nI i + (1 : Int32)).toNatClampNeg)
        rw [if_pos c10, if_neg g1, h1, Option.bind_some, if_neg g1, h2, Option.bind_some, if_pos rfl, e4]
        exact ih (i + 4) w t u v tl' g us j1 j2 m' (by omega) (by omega) I'
      rw [if_neg c10]
      by_cases c11 : xs (nI i).toNatClampNeg &&& (31 : Int32) = 11
      · obtain ⟨r, tl', m', h1, h2, I'⟩ := c_leftOut I tl (xs (nI i + (1 : Int32)).toNatClampNeg)
        rw [if_pos c11, if_neg g1, h1, Option.bind_some, if_neg g1, h2, Option.bind_some, if_pos rfl, e4]
        exact ih (i + 4) w t u v tl' g us j1 j2 m' (by omega) (by omega) I'
      rw [if_neg c11]
      by_cases c12 : xs (nI i).toNatClampNeg &&& (31 : Int32) = 12
      · obtain ⟨r, t', m', h1, h2, I'⟩ := c_down I t (xs (nI i + (1 : Int32)).toNatClampNeg) (xs (nI i + (2 : Int32)).toNatClampNeg)
        rw [if_pos c12, if_neg g1, if_neg g2, h1, Option.bind_some, if_neg g1, if_neg g2, h2, Option.bind_some, if_pos rfl, e4]
        exact ih (i + 4) w t' u v tl g us j1 j2 m' (by omega) (by omega) I'
      rw [if_neg c12]
      by_cases c13 : xs (nI i).toNatClampNeg &&& (31 : Int32) = 13
      · obtain ⟨r, t', m', h1, h2, I'⟩ := c_pebbles I t (xs (nI i + (1 : Int32)).toNatClampNeg)
        rw [if_pos c13, if_neg g1, h1, Option.bind_some, if_neg g1, h2, Option.bind_some, if_pos rfl, e4]
        exact ih (i + 4) w t' u v tl g us j1 j2 m' (by omega) (by omega) I'
      rw [if_neg c13]
      by_cases c14 : xs (nI i).toNatClampNeg &&& (31 : Int32) = 14
      · obtain ⟨r, m', h1, h2, I'⟩ := c_brake I
        rw [if_pos c14, h1, Option.bind_some, h2, Option.bind_some, if_pos rfl, e4]
        exact ih (i + 4) w t u v tl g us j1 j2 m' (by omega) (by omega) I'
      rw [if_neg c14]
      by_cases c15 : xs (nI i).toNatClampNeg &&& (31 : Int32) = 15
      · obtain ⟨r, g', m', h1, h2, I'⟩ := c_balance I g (xs (nI i + (1 : Int32)).toNatClampNeg) (xs (nI i + (2 : Int32)).toNatClampNeg)
        rw [if_pos c15, if_neg g1, if_neg g2, h1, Option.bind_some, if_neg g1, if_neg g2, h2, Option.bind_some, if_pos rfl, e4]
        exact ih (i + 4) w t u v tl g' us j1 j2 m' (by omega) (by omega) I'
      rw [if_neg c15]
      by_cases c16 : xs (nI i).toNatClampNeg &&& (31 : Int32) = 16
      · obtain ⟨r, t', tl', m', h1, h2, I'⟩ := c_could I t tl (xs (nI i + (1 : Int32)).toNatClampNeg) (xs (nI i + (2 : Int32)).toNatClampNeg) (xs (nI i + (3 : Int32)).toNatClampNeg)
        rw [if_pos c16, if_neg g1, if_neg g2, if_neg g3, h1, Option.bind_some, if_neg g1, if_neg g2, if_neg g3, h2, Option.bind_some, if_pos rfl, e4]
        exact ih (i + 4) w t' u v tl' g us j1 j2 m' (by omega) (by omega) I'
      rw [if_neg c16]
      by_cases c17 : xs (nI i).toNatClampNeg &&& (31 : Int32) = 17
      · obtain ⟨r, v', m', h1, h2, I'⟩ := c_seen I (xs (nI i + (1 : Int32)).toNatClampNeg) (xs (nI i + (2 : Int32)).toNatClampNeg)
        rw [if_pos c17, if_neg g1, if_neg g2, h1, Option.bind_some, if_neg g1, if_neg g2, h2, Option.bind_some, if_pos rfl, e4]
        exact ih (i + 4) w t u v' tl g us j1 j2 m' (by omega) (by omega) I'
      rw [if_neg c17]
      by_cases c18 : xs (nI i).toNatClampNeg &&& (31 : Int32) = 18
      · obtain ⟨r, v', m', h1, h2, I'⟩ := c_forget I
        rw [if_pos c18, h1, Option.bind_some, h2, Option.bind_some, if_pos rfl, e4]
        exact ih (i + 4) w t u v' tl g us j1 j2 m' (by omega) (by omega) I'
      rw [if_neg c18]
      by_cases c19 : xs (nI i).toNatClampNeg &&& (31 : Int32) = 19
      · obtain ⟨r, tl', m', h1, h2, I'⟩ := c_filled I tl (xs (nI i + (1 : Int32)).toNatClampNeg)
        rw [if_pos c19, if_neg g1, h1, Option.bind_some, if_neg g1, h2, Option.bind_some, if_pos rfl, e4]
        exact ih (i + 4) w t u v tl' g us j1 j2 m' (by omega) (by omega) I'
      rw [if_neg c19]
      by_cases c20 : xs (nI i).toNatClampNeg &&& (31 : Int32) = 20
      · obtain ⟨r, t', m', h1, h2, I'⟩ := c_chance I t (xs (nI i + (1 : Int32)).toNatClampNeg) (xs (nI i + (2 : Int32)).toNatClampNeg) (xs (nI i + (3 : Int32)).toNatClampNeg)
        rw [if_pos c20, if_neg g1, if_neg g2, if_neg g3, h1, Option.bind_some, if_neg g1, if_neg g2, if_neg g3, h2, Option.bind_some, if_pos (show lg_cmp r r = 0 from (lg_cmp_eq _ _).mpr rfl), e4]
        exact ih (i + 4) w t' u v tl g us j1 j2 m' (by omega) (by omega) I'
      rw [if_neg c20]
      by_cases c21 : xs (nI i).toNatClampNeg &&& (31 : Int32) = 21
      · obtain ⟨r, us', m', h1, h2, I'⟩ := c_year I us (xs (nI i + (1 : Int32)).toNatClampNeg) (xs (nI i + (2 : Int32)).toNatClampNeg) (xs (nI i + (3 : Int32)).toNatClampNeg)
        rw [if_pos c21, if_neg g1, if_neg g2, if_neg g3, h1, Option.bind_some, if_neg g1, if_neg g2, if_neg g3, h2, Option.bind_some, if_pos rfl, e4]
        exact ih (i + 4) w t u v tl g us' j1 j2 m' (by omega) (by omega) I'
      rw [if_neg c21]
      by_cases c22 : xs (nI i).toNatClampNeg &&& (31 : Int32) = 22
      · obtain ⟨r, j1', j2', m', h1, h2, I'⟩ := c_image I (xs (nI i + (1 : Int32)).toNatClampNeg)
        rw [if_pos c22, if_neg g1, h1, Option.bind_some, if_neg g1, h2, Option.bind_some, if_pos rfl, e4]
        exact ih (i + 4) w t u v tl g us j1' j2' m' (by omega) (by omega) I'
      rw [if_neg c22]
      by_cases c23 : xs (nI i).toNatClampNeg &&& (31 : Int32) = 23
      · obtain ⟨r, w', v', m', h1, h2, I'⟩ := c_restore I (xs (nI i + (1 : Int32)).toNatClampNeg)
        rw [if_pos c23, if_neg g1, h1, Option.bind_some, if_neg g1, h2, Option.bind_some, if_pos rfl, e4]
        exact ih (i + 4) w' t u v' tl g us j1 j2 m' (by omega) (by omega) I'
      rw [if_neg c23]
      by_cases c24 : xs (nI i).toNatClampNeg &&& (31 : Int32) = 24
      · obtain ⟨r, m', h1, h2, I'⟩ := c_told I (xs (nI i + (1 : Int32)).toNatClampNeg)
        rw [if_pos c24, if_neg g1, h1, Option.bind_some, if_neg g1, h2, Option.bind_some, if_pos rfl, e4]
        exact ih (i + 4) w t u v tl g us j1 j2 m' (by omega) (by omega) I'
      rw [if_neg c24]
      rw [e4]
      exact ih (i + 4) w t u v tl g us j1 j2 m (by omega) (by omega) I
    · rw [if_pos (hlt.mpr e)]
/-! the beginning -/
def a0 : aW := (fun _ => 10, emp, fun _ => 0, 0, 20)
theorem a0_ok : okA a0 := ⟨by decide, by decide, fun _ _ => ⟨by show 1 ≤ 10; omega, by show 10 ≤ 99; omega⟩, fun _ _ => by show 0 ≤ 99; omega, okR_emp⟩
theorem w_init : ∃ w, f_X9_init = some w ∧ relW w a0 := by
  obtain ⟨f1, e1, e2⟩ := fill_n (N := 8) (by decide) 10 (fun _ => 0)
  obtain ⟨f2, e3, e4⟩ := fill_n (N := 8) (by decide) (-6) (fun _ => 0)
  refine ⟨(f1, f2, f2, (fun _ => 0), 0, 20), ?_, fun k hk => e2 k hk, fun k hk => ?_, fun k hk => e4 k hk, fun k hk => rfl, rfl, rfl⟩
  · rw [f_X9_init, e1, Option.bind_some, e3, Option.bind_some, Option.bind_some]
  · show f2 k = enc (cr emp k)
    rw [e4 k hk, (cr_emp k).resolve_right (by omega)]; rfl
theorem x_init_L : ∀ (n c : Nat) (m : sM), c ≤ 8 → 8 - c < n → (∀ k, k < c → M_weight m k = 10 ∧ M_sits m k = -6) → ∃ f1 f2, f_X11_init_L83 n (nI c) m = some (f1, f2, M_stones m, M_at m, M_drag m, M_sights m, M_sight m, M_signs m, M_pad m, M_foot m, M_turned m, M_bothWays m, M_now m, M_heap m, M_reason m, M_image m, M_isKept m) ∧ ∀ k, k < 8 → f1 k = 10 ∧ f2 k = -6 := by
  intro n
  induction n with
  | zero => intro c m _ h; omega
  | succ n ih =>
    intro c m hc hn hk
    rw [f_X11_init_L83]
    by_cases e : c = 8
    · subst e
      rw [if_pos (show (8 : Int32) ≤ nI 8 by decide)]
      exact ⟨_, _, rfl, hk⟩
    · have hlt : c < 8 := by omega
      have g := nI_ok hlt (show 8 < 2147483648 by decide)
      rw [if_neg (show ¬ (8 : Int32) ≤ nI c from nI_ge hlt (by decide)), if_neg g, if_neg g, nI_cl (show c < 2147483648 by omega), show nI c + (1 : Int32) = nI (c + 1) from nI_1 c]
      exact ih (c + 1) (upd (M_weight m) c 10, upd (M_sits m) c (-6), M_stones m, M_at m, M_drag m, M_sights m, M_sight m, M_signs m, M_pad m, M_foot m, M_turned m, M_bothWays m, M_now m, M_heap m, M_reason m, M_image m, M_isKept m) (by omega) (by omega) (fun k q => by
        show upd (M_weight m) c 10 k = 10 ∧ upd (M_sits m) c (-6) k = -6
        rw [upd_at, upd_at]
        by_cases z : k = c
        · rw [if_pos z, if_pos z]; exact ⟨rfl, rfl⟩
        · rw [if_neg z, if_neg z]; exact hk k (by omega))
theorem law_pure {L : Nat} {xs : Nat → Int32} (hL : L ≤ 256) : ∃ (zx : sX) (zm : sM), f_X10_init = some zx ∧ f_X11_init = some zm ∧ f_L_law_L18 L xs oF 0 zx.1 zx.2.1 zx.2.2.1 zx.2.2.2.1 zx.2.2.2.2.1 zx.2.2.2.2.2.1 zx.2.2.2.2.2.2.1 zx.2.2.2.2.2.2.2.1 zx.2.2.2.2.2.2.2.2 zm = some 1 := by
  have ho := oF_ge
  obtain ⟨w, e1, e2⟩ := w_init
  obtain ⟨f1, f2, e3, e4⟩ := x_init_L oF 0 ((fun _ => 0), (fun _ => 0), (fun _ => 0), 0, 20, 0, (fun _ => 0), 0, (fun _ => 0), 0, 0, 0, (fun _ => 0), (fun _ => 0), 0, (fun _ => 0), (fun _ => 0)) (by omega) (by omega) (fun k h => by omega)
  refine ⟨(w, w, ((fun _ => 0), 0, 0), ((fun _ => 0), (fun _ => 0), 0), (w, -6, -6, 0, 0, 0, 0), (w, (fun _ => 0), 0), (w, (fun _ => 0), 0), (w, ((fun _ => 0), (fun _ => 0), 0), 0), (w, ((fun _ => 0), (fun _ => 0), 0), 0)), _, ?_, e3, ?_⟩
  · rw [f_X10_init, f_X7_init, f_X5_init, f_X8_init, f_X2_init, e1]
    rfl
  · refine law_L hL oF 0 _ _ _ _ _ _ _ _ _ _ (by omega) (by omega) ⟨⟨a0, a0_ok, e2, fun k hk => (e4 k hk).1, fun k hk => (e4 k hk).2, fun _ _ => rfl, rfl, rfl⟩, ⟨0, fun _ => 0, by omega, rfl, rfl, rfl, fun k h => absurd h (by omega)⟩, ⟨0, by omega, rfl, rfl, fun k h => absurd h (by omega)⟩, Or.inl ⟨rfl, rfl⟩, Or.inl ⟨rfl, rfl⟩⟩
