/-! seen, forget, told, image, restore -/
theorem c_seen {w : sW} {u : sP} {v : sS} {j1 j2 : sI} {m : sM} (I : Inv w u v j1 j2 m) (p c : Int32) : ∃ r v' m', f_X10_seen v p c = some (r, v') ∧ f_X11_seen m p c = some (r, m') ∧ Inv w u v' j1 j2 m' := by
  obtain ⟨⟨a, ha, hw, h0⟩, ⟨len, sg, hP⟩, ⟨n, s1, s2, s3, s4⟩, hI1, hI2⟩ := id I
  unfold f_X10_seen f_X11_seen
  rcases per_c p with ⟨k, hk, rfl, q1, -, q3⟩ | ⟨-, q1, -, q3⟩
  · rw [q1, q3, Option.bind_some, Option.bind_some, i1, i1]
    rcases per_c c with ⟨k2, hk2, rfl, -, q1, q3⟩ | ⟨-, -, q1, q3⟩
    · rw [q1, q3, Option.bind_some, Option.bind_some, i1, i1, f_X6_count, Option.bind_some, show S_count v = nI n from s2, show M_sights m = nI n from s3]
      by_cases h6 : n = 6
      · rw [if_neg (show ¬ (nI n, ()).1 < (6 : Int32) from nI_nlt (b := 6) (by omega) (by omega)), if_pos (show nI n = (6 : Int32) by rw [h6]; rfl)]
        exact ⟨_, _, _, rfl, rfl, I⟩
      · have hlt : n < 6 := by omega
        rw [if_pos (show (nI n, ()).1 < (6 : Int32) from nI_lt (b := 6) hlt (by omega)), if_neg (show ¬ nI n = (6 : Int32) from fun q => h6 ((nI_eq (b := 6) (by omega) (by omega)).mp q)), f_X6_add, show S_count v = nI n from s2, if_neg (show ¬ (6 : Int32) ≤ nI n from nI_ge hlt (by decide)), put_in _ _ hlt (by decide), Option.bind_some, put_in _ _ hlt (by decide), Option.bind_some, Option.bind_some, f_X6_count, Option.bind_some]
        rw [show (2 : Int32) * nI n = nI (2 * n) from pk_mul 2 n, show nI (2 * n) + (1 : Int32) = nI (2 * n + 1) from nI_1 _, if_neg (nI_ok (show 2 * n < 12 by omega) (by decide)), if_neg (nI_ok (show 2 * n + 1 < 12 by omega) (by decide)), nI_cl (show 2 * n < 2147483648 by omega), nI_cl (show 2 * n + 1 < 2147483648 by omega)]
        refine ⟨_, _, _, rfl, rfl, ⟨a, ha, hw, h0⟩, ⟨len, sg, hP.o rfl rfl⟩, ⟨n + 1, by omega, nI_1 n, nI_1 n, fun j hj => ?_⟩, hI1.o rfl rfl, hI2.o rfl rfl⟩
        show ∃ p q, p < 8 ∧ q < 8 ∧ upd (S_people v) n (nI k) j = nI p ∧ upd (S_cars v) n (nI k2) j = nI q ∧ upd (upd (M_sight m) (2 * n) (nI k)) (2 * n + 1) (nI k2) (2 * j) = nI p ∧ upd (upd (M_sight m) (2 * n) (nI k)) (2 * n + 1) (nI k2) (2 * j + 1) = nI q
        rw [upd_at, upd_at, upd_at, upd_at, upd_at, upd_at]
        by_cases e : j = n
        · rw [if_pos e, if_pos e, if_neg (show ¬ 2 * j = 2 * n + 1 by omega), if_pos (show 2 * j = 2 * n by omega), if_pos (show 2 * j + 1 = 2 * n + 1 by omega)]
          exact ⟨k, k2, hk, hk2, rfl, rfl, rfl, rfl⟩
        · rw [if_neg e, if_neg e, if_neg (show ¬ 2 * j = 2 * n + 1 by omega), if_neg (show ¬ 2 * j = 2 * n by omega), if_neg (show ¬ 2 * j + 1 = 2 * n + 1 by omega), if_neg (show ¬ 2 * j + 1 = 2 * n by omega)]
          exact s4 j (by omega)
    · rw [q1, q3, Option.bind_some, Option.bind_some, i0, i0]
      exact ⟨_, _, _, rfl, rfl, I⟩
  · rw [q1, q3, Option.bind_some, Option.bind_some, i0, i0]
    exact ⟨_, _, _, rfl, rfl, I⟩
theorem c_forget {w : sW} {u : sP} {v : sS} {j1 j2 : sI} {m : sM} (I : Inv w u v j1 j2 m) : ∃ r v' m', f_X10_forget v = some (r, v') ∧ f_X11_forget m = some (r, m') ∧ Inv w u v' j1 j2 m' := by
  obtain ⟨⟨a, ha, hw, h0⟩, ⟨len, sg, hP⟩, ⟨n, s1, s2, s3, s4⟩, hI1, hI2⟩ := id I
  refine ⟨nI n, (S_people v, S_cars v, 0), (M_weight m, M_sits m, M_stones m, M_at m, M_drag m, 0, M_sight m, M_signs m, M_pad m, M_foot m, M_turned m, M_bothWays m, M_now m, M_heap m, M_reason m, M_image m, M_isKept m), ?_, ?_, ⟨a, ha, hw, h0⟩, ⟨len, sg, hP.o rfl rfl⟩, ⟨0, by omega, rfl, rfl, fun j hj => absurd hj (by omega)⟩, hI1.o rfl rfl, hI2.o rfl rfl⟩
  · rw [← show S_count v = nI n from s2]; rfl
  · rw [← show M_sights m = nI n from s3]; rfl
theorem taken_L {w : sW} {m : sM} {a : aW} (ha : okA a) (hw : relW w a) (h0 : rel0 m a) : ∀ (n k : Nat) (x : Int32), k ≤ 8 → 8 - k < n → ∃ r, f_X9_takenCars_L4 w n x (nI k) = some (r, ()) ∧ f_X11_told_L95 n x (nI k) m = some (r, m) := by
  intro n
  induction n with
  | zero => intro k x _ h; omega
  | succ n ih =>
    intro k x hk hn
    rw [f_X9_takenCars_L4, f_X11_told_L95]
    by_cases e : k = 8
    · subst e
      rw [if_pos (show (8 : Int32) ≤ nI 8 by decide), if_pos (show (8 : Int32) ≤ nI 8 by decide)]
      exact ⟨_, rfl, rfl⟩
    · have hlt : k < 8 := by omega
      have hle := ha.2.2.2.2.1 k hlt
      have g := nI_ok hlt (show 8 < 2147483648 by decide)
      rw [if_neg (show ¬ (8 : Int32) ≤ nI k from nI_ge hlt (by decide)), if_neg (show ¬ (8 : Int32) ≤ nI k from nI_ge hlt (by decide)), at_in _ hlt (by decide), Option.bind_some, if_neg g, nI_cl (show k < 2147483648 by omega), show M_sits m k = _ from h0.2.1 k hlt, show nI k + (1 : Int32) = nI (k + 1) from nI_1 k]
      show ∃ r, (if W_riders w k = (-6 : Int32) then _ else _) = _ ∧ _
      rw [show W_riders w k = _ from hw.2.2.1 k hlt]
      by_cases c : a_rd a k = 8
      · rw [if_pos ((enc_no hle).mpr c), if_neg (fun q => (enc_ge hle).mp q c), Int32.or_zero]
        exact ih (k + 1) x (by omega) (by omega)
      · rw [if_neg (fun q => c ((enc_no hle).mp q)), if_pos ((enc_ge hle).mpr c)]
        exact ih (k + 1) _ (by omega) (by omega)
theorem lt_lit {x : Int32} (h : x < 0) {n : Nat} (hn : n < 2147483648) : x < nI n := by
  rw [Int32.lt_iff_toInt_lt] at h ⊢
  rw [nI_toInt hn]
  have : (0 : Int32).toInt = 0 := by decide
  omega
theorem c_told {w : sW} {u : sP} {v : sS} {j1 j2 : sI} {m : sM} (I : Inv w u v j1 j2 m) (x : Int32) : ∃ r m', f_X10_told w u v x = some (r, ()) ∧ f_X11_told m x = some (r, m') ∧ Inv w u v j1 j2 m' := by
  obtain ⟨⟨a, ha, hw, h0⟩, ⟨len, sg, hP⟩, ⟨n, s1, s2, s3, s4⟩, hI1, hI2⟩ := id I
  have ho := oF_ge
  have ch : ∃ r m', f_X10_told_J48 w u v x = some (r, ()) ∧ (if x = 0 then some (M_signs m, m) else if x = 1 then some (M_drag m, m) else if x = 2 then some (M_sights m, m) else if x = 3 then f_X11_told_L95 oF (0 : Int32) (0 : Int32) m else some ((-2 : Int32), m)) = some (r, m') ∧ Inv w u v j1 j2 m' := by
    unfold f_X10_told_J48
    by_cases e0 : x = 0
    · rw [if_pos e0, if_pos e0]
      exact ⟨nI len, m, by rw [← show P_length u = nI len from hP.2.1]; rfl, by rw [← show M_signs m = nI len from hP.2.2.1], I⟩
    · rw [if_neg e0, if_neg e0]
      by_cases e0 : x = 1
      · rw [if_pos e0, if_pos e0]
        exact ⟨nI (a_dg a), m, by rw [← show W_friction w = nI (a_dg a) from hw.2.2.2.2.2]; rfl, by rw [← show M_drag m = nI (a_dg a) from h0.2.2.2.2], I⟩
      · rw [if_neg e0, if_neg e0]
        by_cases e0 : x = 2
        · rw [if_pos e0, if_pos e0]
          exact ⟨nI n, m, by rw [← show S_count v = nI n from s2]; rfl, by rw [← show M_sights m = nI n from s3], I⟩
        · rw [if_neg e0, if_neg e0]
          by_cases e0 : x = 3
          · rw [if_pos e0, if_pos e0]
            obtain ⟨r, g1, g2⟩ := taken_L ha hw h0 oF 0 0 (by omega) (by omega)
            have g1 : f_X9_takenCars_L4 w oF 0 0 = some (r, ()) := g1
            exact ⟨r, m, by rw [f_X9_takenCars, g1]; rfl, g2, I⟩
          · rw [if_neg e0, if_neg e0]; exact ⟨_, _, rfl, rfl, I⟩
  unfold f_X10_told f_X11_told f_X11_in
  by_cases hx : x < 0
  · rw [if_pos (show x < (10 : Int32) from lt_lit hx (n := 10) (by omega)), if_pos (show x < (10 : Int32) from lt_lit hx (n := 10) (by omega)), Option.bind_some, i0, if_pos (show x < (20 : Int32) from lt_lit hx (n := 20) (by omega)), Option.bind_some, i0, f_X10_told_J24, if_pos (show x < (20 : Int32) from lt_lit hx (n := 20) (by omega))]
    exact ch
  · obtain ⟨k, hk, rfl⟩ := nI_of hx
    by_cases c1 : k < 10
    · have g1 : nI k < (10 : Int32) := nI_lt (b := 10) c1 (by omega)
      have g2 : nI k < (20 : Int32) := nI_lt (b := 20) (by omega) (by omega)
      rw [if_pos g1, if_pos g1, Option.bind_some, i0, if_pos g2, Option.bind_some, i0, f_X10_told_J24, if_pos g2]
      exact ch
    · have g1 : ¬ nI k < (10 : Int32) := nI_nlt (b := 10) (by omega) hk
      rw [if_neg g1, if_neg g1]
      by_cases c2 : k < 18
      · rw [if_neg (show ¬ (18 : Int32) ≤ nI k from nI_ge (b := 18) c2 (by decide)), if_neg (show ¬ (17 : Int32) < nI k from nI_nlt (a := 17) (by omega) (by decide)), Option.bind_some, i1, show nI k - (10 : Int32) = nI (k - 10) from pk_sub (b := 10) (by omega), w_weightOf hw (show k - 10 < 8 by omega), if_neg (nI_ok (show k - 10 < 8 by omega) (by decide)), nI_cl (show k - 10 < 2147483648 by omega), show M_weight m (k - 10) = _ from h0.1 _ (by omega)]
        exact ⟨_, _, rfl, rfl, I⟩
      · have g2 : (18 : Int32) ≤ nI k := nI_le (a := 18) (by omega) hk
        have g3 : (17 : Int32) < nI k := nI_lt (a := 17) (by omega) hk
        rw [if_pos g2, if_pos g3, Option.bind_some, i0, f_X10_told_J24]
        by_cases c3 : k < 20
        · have g4 : nI k < (20 : Int32) := nI_lt (b := 20) (by omega) (by omega)
          rw [if_pos g4, if_pos g4, Option.bind_some, i0]
          exact ch
        · have g4 : ¬ nI k < (20 : Int32) := nI_nlt (b := 20) (by omega) hk
          rw [if_neg g4, if_neg g4]
          by_cases c4 : k < 28
          · obtain ⟨m1, k1, k2, k3, -⟩ := x_asNow h0
            rw [if_neg (show ¬ (28 : Int32) ≤ nI k from nI_ge (b := 28) c4 (by decide)), if_neg (show ¬ (27 : Int32) < nI k from nI_nlt (a := 27) (by omega) (by decide)), Option.bind_some, i1, k1, Option.bind_some, show nI k - (20 : Int32) = nI (k - 20) from pk_sub (b := 20) (by omega), x_carOf k3 ha (show k - 20 < 8 by omega), w_carOf hw (show k - 20 < 8 by omega)]
            exact ⟨_, _, rfl, rfl, I.p k2⟩
          · rw [if_pos (show (28 : Int32) ≤ nI k from nI_le (a := 28) (by omega) hk), if_pos (show (27 : Int32) < nI k from nI_lt (a := 27) (by omega) hk), Option.bind_some, i0]
            exact ch
/-! images -/
theorem s_copy {o : sS} {m : sM} (h : relS o m) (u : sS) : ∃ u', f_X6_copyFrom u o = some u' ∧ relS u' m := by
  obtain ⟨n, s1, s2, s3, s4⟩ := h
  have e6 : (6 : Nat) < 2147483648 := by decide
  refine ⟨(va_cpy (S_people o) (S_people u) 0 0 6, va_cpy (S_cars o) (S_cars u) 0 0 6, S_count o), ?_, n, s1, s2, s3, fun k hk => ?_⟩
  · simp only [f_X6_copyFrom, copy_n _ _ e6, Option.bind_some]
  · obtain ⟨p, q, h1, h2, h3, h4, h5⟩ := s4 k hk
    exact ⟨p, q, h1, h2, (cpy_at (show k < 6 by omega)).trans h3, (cpy_at (show k < 6 by omega)).trans h4, h5⟩
theorem relI.cg {i : sI} {n : Nat} {m m' : sM} (h : relI i n m) (e1 : ∀ j, 40 * n ≤ j → j < 40 * n + 39 → M_image m' j = M_image m j) (e2 : M_isKept m' n = M_isKept m n) : relI i n m' := by
  rcases h with ⟨h1, h2⟩ | ⟨h1, h2, ⟨a, h3, h4, h5, h6, h7, h8, h9⟩, ⟨c, h10, h11, h12, h13⟩⟩
  · exact Or.inl ⟨h1, e2.trans h2⟩
  · refine Or.inr ⟨h1, e2.trans h2, ⟨a, h3, h4, fun k hk => ?_, fun k hk => ?_, fun k hk => ?_, ?_, ?_⟩, ⟨c, h10, h11, ?_, fun k hk => ?_⟩⟩
    · exact (e1 (40 * n + k) (by omega) (by omega)).trans (h5 k hk)
    · exact (e1 (40 * n + 8 + k) (by omega) (by omega)).trans (h6 k hk)
    · exact (e1 (40 * n + 16 + k) (by omega) (by omega)).trans (h7 k hk)
    · exact (e1 (40 * n + 36) (by omega) (by omega)).trans h8
    · exact (e1 (40 * n + 37) (by omega) (by omega)).trans h9
    · exact (e1 (40 * n + 38) (by omega) (by omega)).trans h12
    · obtain ⟨p, q, g1, g2, g3, g4, g5, g6⟩ := h13 k hk
      exact ⟨p, q, g1, g2, g3, g4, (e1 (40 * n + 24 + 2 * k) (by omega) (by omega)).trans g5, (e1 (40 * n + 24 + (2 * k + 1)) (by omega) (by omega)).trans g6⟩
def mIm (m : sM) (g h : Fn) : sM := (M_weight m, M_sits m, M_stones m, M_at m, M_drag m, M_sights m, M_sight m, M_signs m, M_pad m, M_foot m, M_turned m, M_bothWays m, M_now m, M_heap m, M_reason m, g, h)
theorem im81 {b j : Nat} (hb : b ≤ 40) (hj : j < 2) (m : sM) : ∀ (n c : Nat) (f : Fn), c ≤ 12 → 12 - c < n → ∃ g, f_X11_image_L81 n (nI j) (nI b) (nI c) (mIm m f (M_isKept m)) = some (1, mIm m g (upd (M_isKept m) j 1)) ∧ ∀ k, g k = if b + 24 + c ≤ k ∧ k < b + 36 then M_sight m (k - b - 24) else if k = b + 36 then M_at m else if k = b + 37 then M_drag m else if k = b + 38 then M_sights m else f k := by
  intro n
  induction n with
  | zero => intro c f _ h; omega
  | succ n ih =>
    intro c f hc hn
    rw [f_X11_image_L81]
    have e36 : nI b + (36 : Int32) = nI (b + 36) := nI_add b 36
    have e37 : nI b + (37 : Int32) = nI (b + 37) := nI_add b 37
    have e38 : nI b + (38 : Int32) = nI (b + 38) := nI_add b 38
    have e24 : nI b + (24 : Int32) + nI c = nI (b + 24 + c) := by rw [show nI b + (24 : Int32) = nI (b + 24) from nI_add b 24, nI_add]
    by_cases e : c = 12
    · subst e
      rw [if_pos (show (12 : Int32) ≤ nI 12 by decide), e36, e37, e38, if_neg (nI_ok (show b + 36 < 80 by omega) (by decide)), if_neg (nI_ok (show b + 37 < 80 by omega) (by decide)), if_neg (nI_ok (show b + 38 < 80 by omega) (by decide)), if_neg (nI_ok hj (by decide)), nI_cl (show b + 36 < 2147483648 by omega), nI_cl (show b + 37 < 2147483648 by omega), nI_cl (show b + 38 < 2147483648 by omega), nI_cl (show j < 2147483648 by omega)]
      refine ⟨_, rfl, fun k => ?_⟩
      rw [if_neg (by omega), upd_at, upd_at, upd_at]
      by_cases d1 : k = b + 38
      · rw [if_pos d1, if_neg (by omega), if_neg (by omega), if_pos d1]; rfl
      · rw [if_neg d1, if_neg d1]
        by_cases d2 : k = b + 37
        · rw [if_pos d2, if_neg (by omega), if_pos d2]; rfl
        · rw [if_neg d2, if_neg d2]
          by_cases d3 : k = b + 36
          · rw [if_pos d3, if_pos d3]; rfl
          · rw [if_neg d3, if_neg d3]; rfl
    · have hlt : c < 12 := by omega
      rw [if_neg (show ¬ (12 : Int32) ≤ nI c from nI_ge hlt (by decide)), if_neg (nI_ok hlt (by decide)), e24, if_neg (nI_ok (show b + 24 + c < 80 by omega) (by decide)), nI_cl (show c < 2147483648 by omega), nI_cl (show b + 24 + c < 2147483648 by omega), show nI c + (1 : Int32) = nI (c + 1) from nI_1 c]
      obtain ⟨g, h1, h2⟩ := ih (c + 1) (upd f (b + 24 + c) (M_sight m c)) (by omega) (by omega)
      refine ⟨g, h1, fun k => ?_⟩
      rw [h2 k, upd_at]
      by_cases d : k = b + 24 + c
      · rw [if_neg (by omega), if_neg (by omega), if_neg (by omega), if_neg (by omega), if_pos d, if_pos (by omega), show k - b - 24 = c by omega]
      · rw [if_neg d]
        by_cases d2 : b + 24 + (c + 1) ≤ k ∧ k < b + 36
        · rw [if_pos d2, if_pos (by omega)]
        · rw [if_neg d2, if_neg (show ¬ (b + 24 + c ≤ k ∧ k < b + 36) by omega)]
theorem im19 {b j : Nat} (hb : b ≤ 40) (hj : j < 2) (m : sM) : ∀ (n c : Nat) (f : Fn), c ≤ 8 → 8 - c < n → ∃ g, f_X11_image_L19 n (nI j) (nI b) (nI c) (mIm m f (M_isKept m)) = f_X11_image_L81 oF (nI j) (nI b) (nI 0) (mIm m g (M_isKept m)) ∧ ∀ k, g k = if b + c ≤ k ∧ k < b + 8 then M_weight m (k - b) else if b + 8 + c ≤ k ∧ k < b + 16 then M_sits m (k - b - 8) else if b + 16 + c ≤ k ∧ k < b + 24 then M_stones m (k - b - 16) else f k := by
  intro n
  induction n with
  | zero => intro c f _ h; omega
  | succ n ih =>
    intro c f hc hn
    rw [f_X11_image_L19]
    have e0 : nI b + nI c = nI (b + c) := nI_add b c
    have e8 : nI b + (8 : Int32) + nI c = nI (b + 8 + c) := by rw [show nI b + (8 : Int32) = nI (b + 8) from nI_add b 8, nI_add]
    have e16 : nI b + (16 : Int32) + nI c = nI (b + 16 + c) := by rw [show nI b + (16 : Int32) = nI (b + 16) from nI_add b 16, nI_add]
    by_cases e : c = 8
    · subst e
      rw [if_pos (show (8 : Int32) ≤ nI 8 by decide)]
      refine ⟨f, rfl, fun k => ?_⟩
      rw [if_neg (by omega), if_neg (by omega), if_neg (by omega)]
    · have hlt : c < 8 := by omega
      have g := nI_ok hlt (show 8 < 2147483648 by decide)
      rw [if_neg (show ¬ (8 : Int32) ≤ nI c from nI_ge hlt (by decide)), if_neg g, e0, e8, e16, if_neg (nI_ok (show b + c < 80 by omega) (by decide)), if_neg g, if_neg (nI_ok (show b + 8 + c < 80 by omega) (by decide)), if_neg g, if_neg (nI_ok (show b + 16 + c < 80 by omega) (by decide)), nI_cl (show c < 2147483648 by omega), nI_cl (show b + c < 2147483648 by omega), nI_cl (show b + 8 + c < 2147483648 by omega), nI_cl (show b + 16 + c < 2147483648 by omega), show nI c + (1 : Int32) = nI (c + 1) from nI_1 c]
      obtain ⟨g, h1, h2⟩ := ih (c + 1) (upd (upd (upd f (b + c) (M_weight m c)) (b + 8 + c) (M_sits m c)) (b + 16 + c) (M_stones m c)) (by omega) (by omega)
      refine ⟨g, h1, fun k => ?_⟩
      rw [h2 k, upd_at, upd_at, upd_at]
      by_cases d1 : k = b + c
      · rw [if_neg (by omega), if_neg (by omega), if_neg (by omega), if_neg (by omega), if_neg (by omega), if_pos d1, if_pos (by omega), show k - b = c by omega]
      · by_cases d2 : k = b + 8 + c
        · rw [if_neg (by omega), if_neg (by omega), if_neg (by omega), if_neg (by omega), if_pos d2, if_neg (by omega), if_pos (by omega), show k - b - 8 = c by omega]
        · by_cases d3 : k = b + 16 + c
          · rw [if_neg (by omega), if_neg (by omega), if_neg (by omega), if_pos d3, if_neg (by omega), if_neg (by omega), if_pos (by omega), show k - b - 16 = c by omega]
          · rw [if_neg d1, if_neg d2, if_neg d3]
            by_cases f1 : b + (c + 1) ≤ k ∧ k < b + 8
            · rw [if_pos f1, if_pos (by omega)]
            · rw [if_neg f1, if_neg (show ¬ (b + c ≤ k ∧ k < b + 8) by omega)]
              by_cases f2 : b + 8 + (c + 1) ≤ k ∧ k < b + 16
              · rw [if_pos f2, if_pos (by omega)]
              · rw [if_neg f2, if_neg (show ¬ (b + 8 + c ≤ k ∧ k < b + 16) by omega)]
                by_cases f3 : b + 16 + (c + 1) ≤ k ∧ k < b + 24
                · rw [if_pos f3, if_pos (by omega)]
                · rw [if_neg f3, if_neg (show ¬ (b + 16 + c ≤ k ∧ k < b + 24) by omega)]
theorem x_image {j : Nat} (hj : j < 2) (m : sM) : ∃ g, f_X11_image_L19 oF (nI j) (nI (40 * j)) (0 : Int32) m = some (1, mIm m g (upd (M_isKept m) j 1)) ∧ (∀ k, k < 8 → g (40 * j + k) = M_weight m k ∧ g (40 * j + 8 + k) = M_sits m k ∧ g (40 * j + 16 + k) = M_stones m k) ∧ (∀ k, k < 12 → g (40 * j + 24 + k) = M_sight m k) ∧ g (40 * j + 36) = M_at m ∧ g (40 * j + 37) = M_drag m ∧ g (40 * j + 38) = M_sights m ∧ ∀ k, (k < 40 * j ∨ 40 * j + 39 ≤ k) → g k = M_image m k := by
  have ho := oF_ge
  obtain ⟨g1, h1, h2⟩ := im19 (b := 40 * j) (by omega) hj m oF 0 (M_image m) (by omega) (by omega)
  obtain ⟨g2, h3, h4⟩ := im81 (b := 40 * j) (by omega) hj m oF 0 g1 (by omega) (by omega)
  refine ⟨g2, h1.trans h3, fun k hk => ⟨?_, ?_, ?_⟩, fun k hk => ?_, ?_, ?_, ?_, fun k hk => ?_⟩
  · rw [h4, if_neg (by omega), if_neg (by omega), if_neg (by omega), if_neg (by omega), h2, if_pos (by omega)]
    congr 1; omega
  · rw [h4, if_neg (by omega), if_neg (by omega), if_neg (by omega), if_neg (by omega), h2, if_neg (by omega), if_pos (by omega)]
    congr 1; omega
  · rw [h4, if_neg (by omega), if_neg (by omega), if_neg (by omega), if_neg (by omega), h2, if_neg (by omega), if_neg (by omega), if_pos (by omega)]
    congr 1; omega
  · rw [h4, if_pos (by omega)]
    congr 1; omega
  · rw [h4, if_neg (by omega), if_pos rfl]
  · rw [h4, if_neg (by omega), if_neg (by omega), if_pos rfl]
  · rw [h4, if_neg (by omega), if_neg (by omega), if_neg (by omega), if_pos rfl]
  · rw [h4, if_neg (by omega), if_neg (by omega), if_neg (by omega), if_neg (by omega), h2, if_neg (by omega), if_neg (by omega), if_neg (by omega)]
theorem keep_I {w : sW} {v : sS} {m : sM} {a : aW} (ha : okA a) (hw : relW w a) (h0 : rel0 m a) (hS : relS v m) (i : sI) {j : Nat} (hj : j < 2) {g : Fn} (hg1 : ∀ k, k < 8 → g (40 * j + k) = M_weight m k ∧ g (40 * j + 8 + k) = M_sits m k ∧ g (40 * j + 16 + k) = M_stones m k) (hg2 : ∀ k, k < 12 → g (40 * j + 24 + k) = M_sight m k) (hg3 : g (40 * j + 36) = M_at m) (hg4 : g (40 * j + 37) = M_drag m) (hg5 : g (40 * j + 38) = M_sights m) : ∃ i', f_X2_keep i w v = some i' ∧ relI i' j (mIm m g (upd (M_isKept m) j 1)) := by
  obtain ⟨w', e1, e2⟩ := w_copyFrom hw (I_wheel i)
  have hS2 : relS v (mImg g j) := by
    obtain ⟨n, s1, s2, s3, s4⟩ := hS
    refine ⟨n, s1, s2, hg5.trans s3, fun k hk => ?_⟩
    obtain ⟨p, q, d1, d2, d3, d4, d5, d6⟩ := s4 k hk
    exact ⟨p, q, d1, d2, d3, d4, (hg2 (2 * k) (by omega)).trans d5, (hg2 (2 * k + 1) (by omega)).trans d6⟩
  obtain ⟨v', e3, e4⟩ := s_copy hS2 (I_sights i)
  refine ⟨(w', v', 1), by rw [f_X2_keep, e1, Option.bind_some, e3, Option.bind_some], Or.inr ⟨rfl, ?_, ⟨a, ha, e2, fun k hk => (hg1 k hk).1.trans (h0.1 k hk), fun k hk => (hg1 k hk).2.1.trans (h0.2.1 k hk), fun k hk => (hg1 k hk).2.2.trans (h0.2.2.1 k hk), hg3.trans h0.2.2.2.1, hg4.trans h0.2.2.2.2⟩, e4⟩⟩
  show upd (M_isKept m) j 1 j = 1
  exact pk_us
theorem c_image {w : sW} {u : sP} {v : sS} {j1 j2 : sI} {m : sM} (I : Inv w u v j1 j2 m) (x : Int32) : ∃ r j1' j2' m', f_X10_image w v j1 j2 x = some (r, (j1', j2')) ∧ f_X11_image m x = some (r, m') ∧ Inv w u v j1' j2' m' := by
  obtain ⟨⟨a, ha, hw, h0⟩, ⟨len, sg, hP⟩, hS, hI1, hI2⟩ := id I
  unfold f_X10_image f_X11_image
  rcases rng x (lo := 0) (hi := 1) 0 1 rfl rfl (by omega) (by omega) with ⟨r1, r2⟩ | ⟨r1, r2, -, r3⟩ | ⟨r1, r2, -, r3, n, hn1, hn2, rfl⟩
  · rw [if_pos r1, r2, Option.bind_some, i0]; exact ⟨_, _, _, _, rfl, rfl, I⟩
  · rw [if_neg r1, if_neg r2, r3, Option.bind_some, i0]; exact ⟨_, _, _, _, rfl, rfl, I⟩
  · obtain ⟨g, g1, g2, g3, g4, g5, g6, g7⟩ := x_image (show n < 2 by omega) m
    rw [if_neg r1, if_pos r2, r3, Option.bind_some, i1, show (40 : Int32) * nI n = nI (40 * n) from pk_mul 40 n, g1]
    rcases (show n = 0 ∨ n = 1 by omega) with rfl | rfl
    · obtain ⟨i', d1, d2⟩ := keep_I ha hw h0 hS j1 (j := 0) (by omega) g2 g3 g4 g5 g6
      rw [if_pos (show nI 0 = (0 : Int32) from rfl), d1, Option.bind_some]
      refine ⟨_, _, _, _, rfl, rfl, ⟨a, ha, hw, h0⟩, ⟨len, sg, hP.o rfl rfl⟩, hS.o rfl rfl, d2, hI2.cg (fun k h1 h2 => g7 k (by omega)) ?_⟩
      show upd (M_isKept m) 0 1 1 = _
      exact pk_un (by decide)
    · obtain ⟨i', d1, d2⟩ := keep_I ha hw h0 hS j2 (j := 1) (by omega) g2 g3 g4 g5 g6
      rw [if_neg (show ¬ nI 1 = (0 : Int32) by decide), d1, Option.bind_some]
      refine ⟨_, _, _, _, rfl, rfl, ⟨a, ha, hw, h0⟩, ⟨len, sg, hP.o rfl rfl⟩, hS.o rfl rfl, hI1.cg (fun k h1 h2 => g7 k (by omega)) ?_, d2⟩
      show upd (M_isKept m) 1 1 0 = _
      exact pk_un (by decide)
