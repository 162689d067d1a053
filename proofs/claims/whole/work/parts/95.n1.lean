/-! THE CALLS: what stays between them -/
theorem i0 {α : Type} {A B : α} : (if ((0 : Int32), ()).1 = 0 then A else B) = A := if_pos rfl
theorem i1 {α : Type} {A B : α} : (if ((1 : Int32), ()).1 = 0 then A else B) = B := if_neg (by decide)
def relS (v : sS) (m : sM) : Prop := ∃ n, n ≤ 6 ∧ S_count v = nI n ∧ M_sights m = nI n ∧ ∀ k, k < n → ∃ p q, p < 8 ∧ q < 8 ∧ S_people v k = nI p ∧ S_cars v k = nI q ∧ M_sight m (2 * k) = nI p ∧ M_sight m (2 * k + 1) = nI q
def mImg (g : Fn) (n : Nat) : sM := (fun k => g (40 * n + k), fun k => g (40 * n + 8 + k), fun k => g (40 * n + 16 + k), g (40 * n + 36), g (40 * n + 37), g (40 * n + 38), fun k => g (40 * n + 24 + k), 0, fun _ => 0, 0, 0, 0, fun _ => 0, fun _ => 0, 0, fun _ => 0, fun _ => 0)
def relI (i : sI) (n : Nat) (m : sM) : Prop := (I_kept i = 0 ∧ M_isKept m n = 0) ∨ (I_kept i = 1 ∧ M_isKept m n = 1 ∧ (∃ a, okA a ∧ relW (I_wheel i) a ∧ rel0 (mImg (M_image m) n) a) ∧ relS (I_sights i) (mImg (M_image m) n))
theorem relS.o {v : sS} {m m' : sM} (h : relS v m) (e1 : M_sights m' = M_sights m) (e2 : M_sight m' = M_sight m) : relS v m' := by
  obtain ⟨n, h1, h2, h3, h4⟩ := h
  exact ⟨n, h1, h2, e1.trans h3, by rw [e2]; exact h4⟩
theorem relI.o {i : sI} {n : Nat} {m m' : sM} (h : relI i n m) (e1 : M_image m' = M_image m) (e2 : M_isKept m' = M_isKept m) : relI i n m' := by
  rcases h with ⟨h1, h2⟩ | ⟨h1, h2, h3, h4⟩
  · exact Or.inl ⟨h1, by rw [e2]; exact h2⟩
  · exact Or.inr ⟨h1, by rw [e2]; exact h2, by rw [e1]; exact h3, by rw [e1]; exact h4⟩
theorem relP.o {u : sP} {m m' : sM} {len : Nat} {sg : Nat → Nat} (h : relP u m len sg) (e1 : M_signs m' = M_signs m) (e2 : M_pad m' = M_pad m) : relP u m' len sg := by
  obtain ⟨h1, h2, h3, h4, h5⟩ := h
  exact ⟨h1, h2, e1.trans h3, h4, by rw [e2]; exact h5⟩
def Inv (w : sW) (u : sP) (v : sS) (j1 j2 : sI) (m : sM) : Prop := (∃ a, okA a ∧ relW w a ∧ rel0 m a) ∧ (∃ len sg, relP u m len sg) ∧ relS v m ∧ relI j1 0 m ∧ relI j2 1 m
theorem Inv.p {w : sW} {u : sP} {v : sS} {j1 j2 : sI} {m m' : sM} (h : Inv w u v j1 j2 m) (p : pM m m') : Inv w u v j1 j2 m' := by
  obtain ⟨⟨a, h1, h2, h3⟩, ⟨len, sg, h4⟩, h5, h6, h7⟩ := h
  obtain ⟨a1, a2, a3, a4, a5, a6, a7, a8, a9, a10, a11⟩ := id p
  exact ⟨⟨a, h1, h2, h3.p p⟩, ⟨len, sg, h4.p p⟩, h5.o a6 a7, h6.o a10 a11, h7.o a10 a11⟩
theorem per_c (x : Int32) : (∃ k, k < 8 ∧ x = nI k ∧ f_X10_isPerson x = some (1, ()) ∧ f_X10_isCar x = some (1, ()) ∧ f_X11_is8 x = some (1, ())) ∨ ((∀ k, k < 8 → x ≠ nI k) ∧ f_X10_isPerson x = some (0, ()) ∧ f_X10_isCar x = some (0, ()) ∧ f_X11_is8 x = some (0, ())) := by
  unfold f_X10_isPerson f_X10_isCar f_X11_is8 f_X11_in
  by_cases h : x < 0
  · refine Or.inr ⟨fun k hk e => ?_, ?_, ?_, ?_⟩
    · rw [e] at h; exact nI_pos (by omega) h
    · rw [if_pos h]
    · rw [if_pos h]
    · rw [if_pos h]; rfl
  · obtain ⟨k, hk, rfl⟩ := nI_of h
    by_cases h8 : k < 8
    · refine Or.inl ⟨k, h8, rfl, ?_, ?_, ?_⟩
      · rw [if_neg h, if_neg (show ¬ (8 : Int32) ≤ nI k from nI_ge h8 (by decide))]
      · rw [if_neg h, if_neg (show ¬ (8 : Int32) ≤ nI k from nI_ge h8 (by decide))]
      · rw [if_neg h, if_neg (show ¬ (7 : Int32) < nI k from nI_nlt (a := 7) (by omega) (by decide))]; rfl
    · have g : (8 : Int32) ≤ nI k := nI_le (a := 8) (by omega) hk
      refine Or.inr ⟨fun j hj e => ?_, ?_, ?_, ?_⟩
      · have := (nI_eq hk (by omega)).mp e; omega
      · rw [if_neg h, if_pos g]
      · rw [if_neg h, if_pos g]
      · rw [if_neg h, if_pos (show (7 : Int32) < nI k from nI_lt (a := 7) (by omega) hk)]; rfl
theorem rng (x : Int32) {lo hi : Int32} (a b : Nat) (e1 : lo = nI a) (e2 : hi = nI b) (hb : b < 1000000) (hab : a ≤ b) : (x < lo ∧ f_X11_in x lo hi = some (0, ())) ∨ (¬ x < lo ∧ ¬ x ≤ hi ∧ hi < x ∧ f_X11_in x lo hi = some (0, ())) ∨ (¬ x < lo ∧ x ≤ hi ∧ ¬ hi < x ∧ f_X11_in x lo hi = some (1, ()) ∧ ∃ n, a ≤ n ∧ n ≤ b ∧ x = nI n) := by
  subst e1 e2
  unfold f_X11_in
  by_cases h1 : x < nI a
  · exact Or.inl ⟨h1, by rw [if_pos h1]⟩
  · refine Or.inr ?_
    have h0 : ¬ x < 0 := fun q => h1 (by
      rw [Int32.lt_iff_toInt_lt] at q ⊢
      rw [nI_toInt (by omega)]
      have : (0 : Int32).toInt = 0 := by decide
      omega)
    obtain ⟨n, hn, rfl⟩ := nI_of h0
    have ha : a ≤ n := by
      rcases Nat.lt_or_ge n a with q | q
      · exact absurd (nI_lt q (by omega)) h1
      · exact q
    by_cases h2 : n ≤ b
    · have g := nI_nlt h2 (show b < 2 ^ 31 by omega)
      exact Or.inr ⟨h1, nI_le h2 (by omega), g, by rw [if_neg h1, if_neg g], n, ha, h2, rfl⟩
    · have g := nI_lt (show b < n by omega) hn
      exact Or.inl ⟨h1, nI_ge (by omega) hn, g, by rw [if_neg h1, if_pos g]⟩
theorem okA_wgt {a : aW} (ha : okA a) (p : Nat) {n : Nat} (h1 : 1 ≤ n) (h2 : n ≤ 99) : okA (a_wgt a p n) := by
  refine ⟨ha.1, ha.2.1, fun k hk => ?_, ha.2.2.2⟩
  show 1 ≤ un (a_wt a) p n k ∧ un (a_wt a) p n k ≤ 99
  by_cases e : k = p
  · rw [e, un_s]; exact ⟨h1, h2⟩
  · rw [un_n e]; exact ha.2.2.1 k hk
theorem upd_wt {f : Fn} {g : Nat → Nat} (h : ∀ k, k < 8 → f k = nI (g k)) (p n : Nat) : ∀ k, k < 8 → upd f p (nI n) k = nI (un g p n k) := by
  intro k hk
  rw [upd_at]
  by_cases e : k = p
  · rw [if_pos e, e, un_s]
  · rw [if_neg e, un_n e]; exact h k hk
/-! weigh, drag, say, wipe, fault -/
theorem c_weigh {w : sW} {u : sP} {v : sS} {j1 j2 : sI} {m : sM} (I : Inv w u v j1 j2 m) (p x : Int32) : ∃ r w' m', f_X10_weigh w p x = some (r, w') ∧ f_X11_weigh m p x = some (r, m') ∧ Inv w' u v j1 j2 m' := by
  obtain ⟨⟨a, ha, hw, h0⟩, ⟨len, sg, hP⟩, hS, hI1, hI2⟩ := id I
  unfold f_X10_weigh f_X11_weigh
  rcases per_c p with ⟨k, hk, rfl, q1, -, q3⟩ | ⟨-, q1, -, q3⟩
  · rw [q1, q3, Option.bind_some, Option.bind_some, i1, i1]
    rcases rng x (lo := 1) (hi := 99) 1 99 rfl rfl (by omega) (by omega) with ⟨r1, r2⟩ | ⟨r1, r2, -, r3⟩ | ⟨r1, r2, -, r3, n, hn1, hn2, rfl⟩
    · rw [if_pos r1, r2, Option.bind_some, i0]; exact ⟨_, _, _, rfl, rfl, I⟩
    · rw [if_neg r1, if_neg r2, r3, Option.bind_some, i0]; exact ⟨_, _, _, rfl, rfl, I⟩
    · obtain ⟨w', g1, g2⟩ := w_setWeight hw hk n
      rw [if_neg r1, if_pos r2, r3, Option.bind_some, i1, w_weightOf hw hk, Option.bind_some, g1, Option.bind_some, if_neg (nI_ok hk (by decide)), if_neg (nI_ok hk (by decide)), nI_cl (show k < 2147483648 by omega), h0.1 k hk]
      exact ⟨_, _, _, rfl, rfl, ⟨a_wgt a k n, okA_wgt ha k hn1 hn2, g2, upd_wt h0.1 k n, h0.2⟩, ⟨len, sg, hP.o rfl rfl⟩, hS.o rfl rfl, hI1.o rfl rfl, hI2.o rfl rfl⟩
  · rw [q1, q3, Option.bind_some, Option.bind_some, i0, i0]
    exact ⟨_, _, _, rfl, rfl, I⟩
theorem c_drag {w : sW} {u : sP} {v : sS} {j1 j2 : sI} {m : sM} (I : Inv w u v j1 j2 m) (x : Int32) : ∃ r w' m', f_X10_drag w x = some (r, w') ∧ f_X11_drag m x = some (r, m') ∧ Inv w' u v j1 j2 m' := by
  obtain ⟨⟨a, ha, hw, h0⟩, ⟨len, sg, hP⟩, hS, hI1, hI2⟩ := id I
  unfold f_X10_drag f_X11_drag
  rcases rng x (lo := 0) (hi := 9999) 0 9999 rfl rfl (by omega) (by omega) with ⟨r1, r2⟩ | ⟨r1, r2, -, r3⟩ | ⟨r1, r2, -, r3, n, hn1, hn2, rfl⟩
  · rw [if_pos r1, r2, Option.bind_some, i0]; exact ⟨_, _, _, rfl, rfl, I⟩
  · rw [if_neg r1, if_neg r2, r3, Option.bind_some, i0]; exact ⟨_, _, _, rfl, rfl, I⟩
  · rw [if_neg r1, if_pos r2, r3, Option.bind_some, i1, f_X9_friction, Option.bind_some, f_X9_setFriction, Option.bind_some, show M_drag m = nI (a_dg a) from h0.2.2.2.2, show W_friction w = nI (a_dg a) from hw.2.2.2.2.2]
    exact ⟨_, _, _, rfl, rfl, ⟨(a_wt a, a_rd a, a_ld a, a_ft a, n), ⟨ha.1, hn2, ha.2.2⟩, ⟨hw.1, hw.2.1, hw.2.2.1, hw.2.2.2.1, hw.2.2.2.2.1, rfl⟩, ⟨h0.1, h0.2.1, h0.2.2.1, h0.2.2.2.1, rfl⟩⟩, ⟨len, sg, hP.o rfl rfl⟩, hS.o rfl rfl, hI1.o rfl rfl, hI2.o rfl rfl⟩
theorem askN_un {sg : Nat → Nat} (c x : Nat) : ∀ n, n ≤ c → askN (un sg c x) n = askN sg n
  | 0, _ => rfl
  | n + 1, h => by rw [askN, askN, askN_un c x n (by omega), un_n (by omega)]
theorem c_say {w : sW} {u : sP} {v : sS} {j1 j2 : sI} {m : sM} (I : Inv w u v j1 j2 m) (x : Int32) : ∃ r u' m', f_X10_say u x = some (r, u') ∧ f_X11_say m x = some (r, m') ∧ Inv w u' v j1 j2 m' := by
  obtain ⟨⟨a, ha, hw, h0⟩, ⟨len, sg, hP⟩, hS, hI1, hI2⟩ := id I
  have hl := hP.1
  unfold f_X10_say f_X11_say
  rcases rng x (lo := 33) (hi := 126) 33 126 rfl rfl (by omega) (by omega) with ⟨r1, r2⟩ | ⟨r1, r2, -, r3⟩ | ⟨r1, r2, -, r3, n, hn1, hn2, rfl⟩
  · rw [if_pos r1, r2, Option.bind_some, i0]; exact ⟨_, _, _, rfl, rfl, I⟩
  · rw [if_neg r1, if_neg r2, r3, Option.bind_some, i0]; exact ⟨_, _, _, rfl, rfl, I⟩
  · rw [if_neg r1, if_pos r2, r3, Option.bind_some, i1, f_X4_length, Option.bind_some, show P_length u = nI len from hP.2.1, show M_signs m = nI len from hP.2.2.1]
    by_cases h60 : len = 60
    · rw [if_neg (show ¬ nI len < (60 : Int32) from nI_nlt (b := 60) (by omega) (by omega)), if_pos (show nI len = (60 : Int32) by rw [h60]; rfl)]
      exact ⟨_, _, _, rfl, rfl, I⟩
    · have hlt : len < 60 := by omega
      rw [if_pos (show nI len < (60 : Int32) from nI_lt (b := 60) hlt (by omega)), if_neg (show ¬ nI len = (60 : Int32) from fun q => h60 ((nI_eq (b := 60) (by omega) (by omega)).mp q)), if_neg (nI_ok hlt (by decide)), nI_cl (show len < 2147483648 by omega), f_X4_write, show P_length u = nI len from hP.2.1, if_neg (show ¬ (60 : Int32) ≤ nI len from nI_ge hlt (by decide)), put_in _ _ hlt (by decide), Option.bind_some]
      have key : ∀ (as : Int32), as = nI (askN (un sg len n) (len + 1)) → ∃ r u' m', ((some (upd (P_signs u) len (nI n), nI len + 1, as) : Option sP).bind fun z5 => (f_X4_length z5).bind fun z6 => some (z6.1, z5)) = some (r, u') ∧ some (nI len + 1, (M_weight m, M_sits m, M_stones m, M_at m, M_drag m, M_sights m, M_sight m, nI len + 1, upd (M_pad m) len (nI n), M_foot m, M_turned m, M_bothWays m, M_now m, M_heap m, M_reason m, M_image m, M_isKept m)) = some (r, m') ∧ Inv w u' v j1 j2 m' := by
        intro as has
        refine ⟨_, _, _, rfl, rfl, ⟨a, ha, hw, h0⟩, ⟨len + 1, un sg len n, by omega, nI_1 len, nI_1 len, has, fun k hk => ?_⟩, hS.o rfl rfl, hI1.o rfl rfl, hI2.o rfl rfl⟩
        show 33 ≤ un sg len n k ∧ un sg len n k ≤ 126 ∧ upd (P_signs u) len (nI n) k = nI (un sg len n k) ∧ upd (M_pad m) len (nI n) k = nI (un sg len n k)
        rw [upd_at, upd_at]
        by_cases e : k = len
        · rw [if_pos e, if_pos e, e, un_s]; exact ⟨hn1, hn2, rfl, rfl⟩
        · rw [if_neg e, if_neg e, un_n e]; exact hP.2.2.2.2 k (by omega)
      have hask := hP.2.2.2.1
      by_cases e63 : n = 63
      · rw [if_pos (show nI n = (63 : Int32) by rw [e63]; rfl)]
        exact key _ (by rw [show P_asked u = nI (askN sg len) from hask, askN, askN_un len n len (Nat.le_refl _), un_s, if_pos e63]; exact nI_1 _)
      · rw [if_neg (show ¬ nI n = (63 : Int32) from fun q => e63 ((nI_eq (b := 63) (by omega) (by omega)).mp q))]
        exact key _ (by rw [show P_asked u = nI (askN sg len) from hask, askN, askN_un len n len (Nat.le_refl _), un_s, if_neg e63]; exact nI_add _ 0)
theorem c_wipe {w : sW} {u : sP} {v : sS} {j1 j2 : sI} {m : sM} (I : Inv w u v j1 j2 m) : ∃ r u' m', f_X10_wipe u = some (r, u') ∧ f_X11_wipe m = some (r, m') ∧ Inv w u' v j1 j2 m' := by
  obtain ⟨⟨a, ha, hw, h0⟩, ⟨len, sg, hP⟩, hS, hI1, hI2⟩ := id I
  refine ⟨nI len, (P_signs u, 0, 0), (M_weight m, M_sits m, M_stones m, M_at m, M_drag m, M_sights m, M_sight m, 0, M_pad m, M_foot m, M_turned m, M_bothWays m, M_now m, M_heap m, M_reason m, M_image m, M_isKept m), ?_, ?_, ⟨a, ha, hw, h0⟩, ⟨0, sg, by omega, rfl, rfl, rfl, fun k hk => absurd hk (by omega)⟩, hS.o rfl rfl, hI1.o rfl rfl, hI2.o rfl rfl⟩
  · rw [← show P_length u = nI len from hP.2.1]; rfl
  · rw [← show M_signs m = nI len from hP.2.2.1]; rfl
theorem c_fault {w : sW} {u : sP} {v : sS} {j1 j2 : sI} {m : sM} (I : Inv w u v j1 j2 m) : ∃ r, f_X10_fault u = some (r, ()) ∧ f_X11_fault m = some (r, ()) := by
  obtain ⟨⟨a, ha, hw, h0⟩, ⟨len, sg, hP⟩, hS, hI1, hI2⟩ := id I
  refine ⟨fltI sg len 0, ?_, ?_⟩
  · rw [f_X10_fault, p_fault hP, Option.bind_some]
  · rw [f_X11_fault, m_fault hP, Option.bind_some]
/-! foot, car, pull -/
theorem c_foot {w : sW} {u : sP} {v : sS} {j1 j2 : sI} {m : sM} (I : Inv w u v j1 j2 m) : ∃ r, f_X10_foot w = some (r, ()) ∧ f_X11_foot m = some (r, ()) := by
  obtain ⟨⟨a, ha, hw, h0⟩, -⟩ := id I
  refine ⟨nI (a_ft a), ?_, ?_⟩
  · rw [f_X10_foot, f_X9_lowest, Option.bind_some, show W_lowest w = nI (a_ft a) from hw.2.2.2.2.1]
  · rw [f_X11_foot, show M_at m = nI (a_ft a) from h0.2.2.2.1]
theorem c_car {w : sW} {u : sP} {v : sS} {j1 j2 : sI} {m : sM} (I : Inv w u v j1 j2 m) (c x : Int32) : ∃ r, f_X10_car w c x = some (r, ()) ∧ f_X11_car m c x = some (r, ()) := by
  obtain ⟨⟨a, ha, hw, h0⟩, -⟩ := id I
  have h8 := ha.1
  unfold f_X10_car f_X11_car
  rcases per_c c with ⟨k, hk, rfl, -, q1, q3⟩ | ⟨-, -, q1, q3⟩
  · rw [q1, q3, Option.bind_some, Option.bind_some, i1, i1]
    have n0 : ∀ y : Int32, x < 0 ∨ (2 : Int32) < x → 0 ≤ y → y ≤ 2 → x ≠ y := by
      intro y h1 h2 h3 e
      subst e
      rw [Int32.lt_iff_toInt_lt, Int32.lt_iff_toInt_lt] at h1
      rw [Int32.le_iff_toInt_le] at h2 h3
      omega
    have out : x < 0 ∨ (2 : Int32) < x → ∃ r, some ((-2 : Int32), ()) = some (r, ()) ∧ (if x = 0 then (if nI k < 0 ∨ 8 ≤ (nI k).toNatClampNeg then none else some (M_sits m (nI k).toNatClampNeg, ())) else if x = 1 then (if nI k < 0 ∨ 8 ≤ (nI k).toNatClampNeg then none else some (M_stones m (nI k).toNatClampNeg, ())) else if x = (2 : Int32) then some ((nI k - M_at m + (8 : Int32)) - (nI k - M_at m + (8 : Int32)) / (8 : Int32) * (8 : Int32), ()) else some ((-2 : Int32), ())) = some (r, ()) := by
      intro h
      rw [if_neg (n0 0 h (by decide) (by decide)), if_neg (n0 1 h (by decide) (by decide)), if_neg (n0 2 h (by decide) (by decide))]
      exact ⟨_, rfl, rfl⟩
    rcases rng x (lo := 0) (hi := 2) 0 2 rfl rfl (by omega) (by omega) with ⟨r1, r2⟩ | ⟨r1, r2, r4, r3⟩ | ⟨r1, r2, -, r3, n, hn1, hn2, rfl⟩
    · rw [if_pos r1]; exact out (Or.inl r1)
    · rw [if_neg r1, if_neg r2]; exact out (Or.inr r4)
    · rw [if_neg r1, if_pos r2]
      rcases (show n = 0 ∨ n = 1 ∨ n = 2 by omega) with rfl | rfl | rfl
      · rw [if_pos (show nI 0 = (0 : Int32) from rfl), if_pos (show nI 0 = (0 : Int32) from rfl), w_riderOf hw hk, Option.bind_some, if_neg (nI_ok hk (by decide)), nI_cl (show k < 2147483648 by omega), h0.2.1 k hk]
        exact ⟨_, rfl, rfl⟩
      · rw [if_neg (show ¬ nI 1 = (0 : Int32) by decide), if_neg (show ¬ nI 1 = (0 : Int32) by decide), if_pos (show nI 1 = (1 : Int32) from rfl), if_pos (show nI 1 = (1 : Int32) from rfl), w_loadOf hw hk, Option.bind_some, if_neg (nI_ok hk (by decide)), nI_cl (show k < 2147483648 by omega), h0.2.2.1 k hk]
        exact ⟨_, rfl, rfl⟩
      · have hz : nI k - nI (a_ft a) + (8 : Int32) = nI (k + 8 - a_ft a) := by
          rw [show (8 : Int32) = iI 8 from rfl, iI_nI k, iI_nI (a_ft a), iI_sub, iI_add, iI_nI]
          congr 1
          omega
        have hz2 : (((k : Int) - (a_ft a : Int)) % 8).toNat = (k + 8 - a_ft a) % 8 := by omega
        rw [if_neg (show ¬ nI 2 = (0 : Int32) by decide), if_neg (show ¬ nI 2 = (0 : Int32) by decide), if_neg (show ¬ nI 2 = (1 : Int32) by decide), if_neg (show ¬ nI 2 = (1 : Int32) by decide), if_pos (show nI 2 = (2 : Int32) from rfl), f_X9_placeOf, show W_lowest w = nI (a_ft a) from hw.2.2.2.2.1, show M_at m = nI (a_ft a) from h0.2.2.2.1, hz, md8 (by omega), iI_nI k, iI_nI (a_ft a), iI_sub, flm8 (by omega) (by omega), hz2]
        exact ⟨_, rfl, rfl⟩
  · rw [q1, q3, Option.bind_some, Option.bind_some, i0, i0]
    exact ⟨_, rfl, rfl⟩
theorem c_pull {w : sW} {u : sP} {v : sS} {j1 j2 : sI} {m : sM} (I : Inv w u v j1 j2 m) : ∃ r m', f_X10_pull w = some (r, ()) ∧ f_X11_pull m = some (r, m') ∧ Inv w u v j1 j2 m' := by
  obtain ⟨⟨a, ha, hw, h0⟩, -⟩ := id I
  obtain ⟨m1, g1, g2, g3, -⟩ := x_asNow h0
  have e1 := w_pullAt hw ha ha.1
  have e2 := x_pullAt g3 ha ha.1
  refine ⟨iI (aP a (a_ft a)) + 1000000, m1, ?_, ?_, I.p g2⟩
  · rw [f_X10_pull, f_X9_pullNow, show W_lowest w = nI (a_ft a) from hw.2.2.2.2.1, e1]; rfl
  · rw [f_X11_pull, g1, Option.bind_some, show M_foot m1 = nI (a_ft a) from g3.2.2.2.1, e2]; rfl
