/-! balance: counting seatings -/
def cnB (bt : Nat → Bool) (st : (Nat → Nat) → Bool) : Nat → Nat → (Nat → Nat) → Nat
  | 0, _, rd => if st rd = true then 1 else 0
  | n + 1, i, rd => if bt i = true then tS (fun c => if rd c = 8 then cnB bt st n (i + 1) (un rd c i) else 0) 8 0 else cnB bt st n (i + 1) rd
def qF (bt : Nat → Bool) (st : (Nat → Nat) → Bool) (n i : Nat) (rd : Nat → Nat) (c : Nat) : Bool := decide (rd c = 8) && decide (cnB bt st n (i + 1) (un rd c i) ≠ 0)
def fsB (bt : Nat → Bool) (st : (Nat → Nat) → Bool) : Nat → Nat → (Nat → Nat) → (Nat → Nat)
  | 0, _, rd => rd
  | n + 1, i, rd => if bt i = true then fsB bt st n (i + 1) (un rd (lst (qF bt st n i rd) 8 0) i) else fsB bt st n (i + 1) rd
def sdB (bt : Nat → Bool) (st : (Nat → Nat) → Bool) : Nat → Nat → (Nat → Nat) → Nat → Bool
  | 0, _, rd, _ => st rd
  | n + 1, i, rd, c => if bt i = true then decide (rd (c / 8 ^ ct bt n (i + 1)) = 8) && sdB bt st n (i + 1) (un rd (c / 8 ^ ct bt n (i + 1)) i) (c % 8 ^ ct bt n (i + 1)) else sdB bt st n (i + 1) rd c
theorem tS_ne {G : Nat → Nat} : ∀ n i, tS G n i ≠ 0 ↔ ∃ j, i ≤ j ∧ j < i + n ∧ G j ≠ 0
  | 0, i => ⟨fun h => absurd rfl h, fun ⟨j, h1, h2, _⟩ => by omega⟩
  | n + 1, i => by
    rw [tS]
    have ih := tS_ne (G := G) n (i + 1)
    constructor
    · intro h
      by_cases c : G i = 0
      · obtain ⟨j, h1, h2, h3⟩ := ih.mp (by omega)
        exact ⟨j, by omega, by omega, h3⟩
      · exact ⟨i, Nat.le_refl i, by omega, c⟩
    · rintro ⟨j, h1, h2, h3⟩
      by_cases e : j = i
      · rw [e] at h3; omega
      · have := ih.mpr ⟨j, by omega, by omega, h3⟩
        omega
theorem ct_add (fr : Nat → Bool) : ∀ a b i, ct fr (a + b) i = ct fr a i + ct fr b (i + a)
  | 0, b, i => by rw [Nat.zero_add, ct, Nat.zero_add, Nat.add_zero]
  | a + 1, b, i => by
    rw [show a + 1 + b = (a + b) + 1 by omega, ct, ct, ct_add fr a b (i + 1), show i + (a + 1) = i + 1 + a by omega]
    omega
section
variable (bt : Nat → Bool) (st : (Nat → Nat) → Bool)
theorem cnB_le : ∀ n i rd, cnB bt st n i rd ≤ 8 ^ n
  | 0, _, rd => by
    rw [cnB]
    by_cases c : st rd = true
    · rw [if_pos c]; decide
    · rw [if_neg c]; exact Nat.zero_le _
  | n + 1, i, rd => by
    have h8 : 0 < 8 ^ n := Nat.pow_pos (by decide)
    rw [cnB, Nat.pow_succ]
    by_cases c : bt i = true
    · rw [if_pos c]
      have key : ∀ c, (if rd c = 8 then cnB bt st n (i + 1) (un rd c i) else 0) ≤ 8 ^ n := by
        intro c
        by_cases e : rd c = 8
        · rw [if_pos e]; exact cnB_le n (i + 1) _
        · rw [if_neg e]; exact Nat.zero_le _
      have k0 := key 0; have k1 := key 1; have k2 := key 2; have k3 := key 3
      have k4 := key 4; have k5 := key 5; have k6 := key 6; have k7 := key 7
      simp only [tS, Nat.reduceAdd]
      omega
    · rw [if_neg c]
      have := cnB_le n (i + 1) rd
      omega
/-- all codes together -/
theorem sdB_sum : ∀ n i rd, tS (fun c => if sdB bt st n i rd c = true then 1 else 0) (8 ^ ct bt n i) 0 = cnB bt st n i rd
  | 0, i, rd => by
    show (if sdB bt st 0 i rd 0 = true then 1 else 0) + 0 = _
    rw [Nat.add_zero, sdB, cnB]
  | n + 1, i, rd => by
    rw [cnB, ct]
    by_cases c : bt i = true
    · rw [if_pos c, if_pos c, Nat.pow_succ, Nat.mul_comm]
      have e1 := tS_block (fun c => if sdB bt st (n + 1) i rd c = true then 1 else 0) (8 ^ ct bt n (i + 1)) 8 0
      rw [Nat.zero_mul] at e1
      rw [e1]
      refine tS_ext _ _ (fun d _ _ => ?_)
      show tS (fun c => if sdB bt st (n + 1) i rd c = true then 1 else 0) (8 ^ ct bt n (i + 1)) (d * 8 ^ ct bt n (i + 1)) = if rd d = 8 then cnB bt st n (i + 1) (un rd d i) else 0
      have e3 := tS_shift (fun c => if sdB bt st (n + 1) i rd c = true then 1 else 0) (8 ^ ct bt n (i + 1)) 0 (d * 8 ^ ct bt n (i + 1))
      rw [Nat.zero_add] at e3
      rw [e3]
      by_cases e : rd d = 8
      · rw [if_pos e, ← sdB_sum n (i + 1) (un rd d i)]
        refine tS_ext _ _ (fun s _ hs => ?_)
        show (if sdB bt st (n + 1) i rd (s + d * 8 ^ ct bt n (i + 1)) = true then 1 else 0) = _
        rw [Nat.add_comm s, sdB, if_pos c, (code8 (d := d) (show s < 8 ^ ct bt n (i + 1) by omega)).1, (code8 (d := d) (show s < 8 ^ ct bt n (i + 1) by omega)).2, decide_eq_true e, Bool.true_and]
      · rw [if_neg e]
        refine tS_zero _ _ (fun s _ hs => ?_)
        show (if sdB bt st (n + 1) i rd (s + d * 8 ^ ct bt n (i + 1)) = true then 1 else 0) = 0
        rw [Nat.add_comm s, sdB, if_pos c, (code8 (d := d) (show s < 8 ^ ct bt n (i + 1) by omega)).1, decide_eq_false e, Bool.false_and, if_neg (by decide)]
    · rw [if_neg c, if_neg c, Nat.add_zero, ← sdB_sum n (i + 1) rd]
      refine tS_ext _ _ (fun s _ _ => ?_)
      show (if sdB bt st (n + 1) i rd s = true then 1 else 0) = _
      rw [sdB, if_neg c]
theorem sdB_ex (n i : Nat) (rd : Nat → Nat) : cnB bt st n i rd ≠ 0 ↔ ∃ c, c < 8 ^ ct bt n i ∧ sdB bt st n i rd c = true := by
  rw [← sdB_sum, tS_ne]
  constructor
  · rintro ⟨j, -, h2, h3⟩
    refine ⟨j, by omega, ?_⟩
    by_cases c : sdB bt st n i rd j = true
    · exact c
    · exact absurd (if_neg c) h3
  · rintro ⟨j, h1, h2⟩
    exact ⟨j, Nat.zero_le _, by omega, by rw [if_pos h2]; decide⟩
theorem fst_lt (n i : Nat) (rd : Nat → Nat) : cnB bt st n i rd ≠ 0 ↔ lst (sdB bt st n i rd) (8 ^ ct bt n i) 0 < 8 ^ ct bt n i := by
  rw [sdB_ex]
  constructor
  · rintro ⟨c, h1, h2⟩
    exact Nat.lt_of_le_of_lt (lst_le (Nat.zero_le _) (by omega) h2) h1
  · intro h
    exact ⟨_, h, lst_yes _ _ 0 (by omega)⟩
theorem qF_ex {n i : Nat} {rd : Nat → Nat} (hb : bt i = true) (h : cnB bt st (n + 1) i rd ≠ 0) : lst (qF bt st n i rd) 8 0 < 8 ∧ rd (lst (qF bt st n i rd) 8 0) = 8 ∧ cnB bt st n (i + 1) (un rd (lst (qF bt st n i rd) 8 0) i) ≠ 0 := by
  rw [cnB, if_pos hb, tS_ne] at h
  obtain ⟨j, -, h2, h3⟩ := h
  by_cases e : rd j = 8
  · have h3 : cnB bt st n (i + 1) (un rd j i) ≠ 0 := by
      intro q
      apply h3
      show (if rd j = 8 then cnB bt st n (i + 1) (un rd j i) else 0) = 0
      rw [if_pos e]; exact q
    have hq : qF bt st n i rd j = true := by unfold qF; rw [decide_eq_true e, decide_eq_true h3]; rfl
    have hl := lst_le (n := 8) (Nat.zero_le _) (by omega) hq
    have hy := lst_yes (qF bt st n i rd) 8 0 (by omega)
    unfold qF at hy
    rw [Bool.and_eq_true, decide_eq_true_iff, decide_eq_true_iff] at hy
    refine ⟨by omega, hy.1, hy.2⟩
  · exact absurd (if_neg e) h3
theorem first_sd {n i : Nat} {rd : Nat → Nat} (hb : bt i = true) (h : cnB bt st (n + 1) i rd ≠ 0) : lst (sdB bt st (n + 1) i rd) (8 ^ ct bt (n + 1) i) 0 = lst (qF bt st n i rd) 8 0 * 8 ^ ct bt n (i + 1) + lst (sdB bt st n (i + 1) (un rd (lst (qF bt st n i rd) 8 0) i)) (8 ^ ct bt n (i + 1)) 0 := by
  obtain ⟨h1, h2, h3⟩ := qF_ex bt st hb h
  have h4 := (fst_lt bt st n (i + 1) _).mp h3
  have hlt := (fst_lt bt st (n + 1) i rd).mp h
  have hB : 8 ^ ct bt (n + 1) i = 8 ^ ct bt n (i + 1) * 8 := by rw [ct, if_pos hb, Nat.pow_succ]
  have hy := lst_yes (sdB bt st (n + 1) i rd) (8 ^ ct bt (n + 1) i) 0 (by omega)
  have hys := lst_yes (sdB bt st n (i + 1) (un rd (lst (qF bt st n i rd) 8 0) i)) (8 ^ ct bt n (i + 1)) 0 (by omega)
  have hno := lst_no (sdB bt st n (i + 1) (un rd (lst (qF bt st n i rd) 8 0) i)) (8 ^ ct bt n (i + 1)) 0
  have hnq := lst_no (qF bt st n i rd) 8 0
  generalize lst (qF bt st n i rd) 8 0 = d at *
  generalize lst (sdB bt st n (i + 1) (un rd d i)) (8 ^ ct bt n (i + 1)) 0 = s at *
  have hle : lst (sdB bt st (n + 1) i rd) (8 ^ ct bt (n + 1) i) 0 ≤ d * 8 ^ ct bt n (i + 1) + s := by
    refine lst_le (Nat.zero_le _) ?_ ?_
    · have : (d + 1) * 8 ^ ct bt n (i + 1) ≤ 8 * 8 ^ ct bt n (i + 1) := Nat.mul_le_mul_right _ h1
      rw [Nat.add_mul, Nat.one_mul] at this
      omega
    · rw [sdB, if_pos hb, (code8 h4).1, (code8 h4).2, decide_eq_true h2, Bool.true_and]
      exact hys
  generalize lst (sdB bt st (n + 1) i rd) (8 ^ ct bt (n + 1) i) 0 = j at *
  have hp : 0 < 8 ^ ct bt n (i + 1) := Nat.pow_pos (by decide)
  rw [sdB, if_pos hb, Bool.and_eq_true, decide_eq_true_iff] at hy
  have hsj := Nat.mod_lt j hp
  have hjd : j / 8 ^ ct bt n (i + 1) ≤ d := by
    have := Nat.div_le_div_right (c := 8 ^ ct bt n (i + 1)) hle
    rw [(code8 h4).1] at this
    exact this
  have hcn : cnB bt st n (i + 1) (un rd (j / 8 ^ ct bt n (i + 1)) i) ≠ 0 := (sdB_ex bt st n (i + 1) _).mpr ⟨_, hsj, hy.2⟩
  have hq : qF bt st n i rd (j / 8 ^ ct bt n (i + 1)) = true := by unfold qF; rw [decide_eq_true hy.1, decide_eq_true hcn]; rfl
  have hd : d = j / 8 ^ ct bt n (i + 1) := by
    rcases Nat.lt_or_ge (j / 8 ^ ct bt n (i + 1)) d with q | q
    · exact absurd hq (hnq _ (Nat.zero_le _) q)
    · omega
  have hs : s ≤ j % 8 ^ ct bt n (i + 1) := by
    rcases Nat.lt_or_ge (j % 8 ^ ct bt n (i + 1)) s with q | q
    · rw [← hd] at hy
      exact absurd hy.2 (hno _ (Nat.zero_le _) q)
    · exact q
  have hdm := Nat.div_add_mod j (8 ^ ct bt n (i + 1))
  rw [← hd, Nat.mul_comm] at hdm
  omega
/-- who is seated stays seated -/
theorem fsB_keep : ∀ n i rd, i + n = 8 → okR rd → (∀ q, i ≤ q → q < 8 → cr rd q = 8) → cnB bt st n i rd ≠ 0 → ∀ p, p < i → cr rd p < 8 → cr (fsB bt st n i rd) p = cr rd p
  | 0, _, _, _, _, _, _, _, _, _ => rfl
  | n + 1, i, rd, hn, hok, hun, hc, p, hp, hp8 => by
    rw [fsB]
    by_cases c : bt i = true
    · obtain ⟨h1, h2, h3⟩ := qF_ex bt st c hc
      rw [if_pos c]
      have hi := hun i (Nat.le_refl i) (by omega)
      have cs := fun q (hq : q < 8) => cr_seat hok h1 (show i < 8 by omega) (Or.inl hi) (Or.inl h2) (q := q) hq
      have e := cs p (by omega)
      rw [if_neg (by omega)] at e
      rw [fsB_keep n (i + 1) _ (by omega) (okR_seat hok (by omega) (Or.inl hi)) (fun q q1 q2 => by rw [cs q q2, if_neg (by omega)]; exact hun q (by omega) q2) h3 p (by omega) (by rw [e]; exact hp8), e]
    · rw [if_neg c]
      rw [cnB, if_neg c] at hc
      exact fsB_keep n (i + 1) rd (by omega) hok (fun q q1 q2 => hun q (by omega) q2) hc p (by omega) hp8
theorem digit_hi {d s e z : Nat} (h : s < 8 ^ (e + 1 + z)) : (d * 8 ^ (e + 1 + z) + s) / 8 ^ e % 8 = s / 8 ^ e % 8 := by
  have hp : 0 < 8 ^ e := Nat.pow_pos (by decide)
  have e1 : d * 8 ^ (e + 1 + z) = (d * 8 ^ z * 8) * 8 ^ e := by
    rw [Nat.pow_add, Nat.pow_succ]
    simp only [Nat.mul_assoc, Nat.mul_comm, Nat.mul_left_comm]
  rw [e1, Nat.add_comm, Nat.add_mul_div_right _ _ hp, Nat.add_mul_mod_self_right]
/-- the digits of the first code -/
theorem digits_sd : ∀ n i rd, i + n = 8 → okR rd → (∀ q, i ≤ q → q < 8 → cr rd q = 8) → cnB bt st n i rd ≠ 0 → ∀ p, i ≤ p → p < 8 → bt p = true → lst (sdB bt st n i rd) (8 ^ ct bt n i) 0 / 8 ^ ct bt (8 - (p + 1)) (p + 1) % 8 = cr (fsB bt st n i rd) p
  | 0, i, rd, hn, _, _, _, p, h1, h2, _ => by omega
  | n + 1, i, rd, hn, hok, hun, hc, p, h1, h2, hbp => by
    by_cases c : bt i = true
    · obtain ⟨g1, g2, g3⟩ := qF_ex bt st c hc
      have g4 := (fst_lt bt st n (i + 1) _).mp g3
      have hi := hun i (Nat.le_refl i) (by omega)
      have cs := fun q (hq : q < 8) => cr_seat hok g1 (show i < 8 by omega) (Or.inl hi) (Or.inl g2) (q := q) hq
      have ok2 := okR_seat hok (c := lst (qF bt st n i rd) 8 0) (show i < 8 by omega) (Or.inl hi)
      have un2 : ∀ q, i + 1 ≤ q → q < 8 → cr (un rd (lst (qF bt st n i rd) 8 0) i) q = 8 := fun q q1 q2 => by rw [cs q q2, if_neg (by omega)]; exact hun q (by omega) q2
      rw [first_sd bt st c hc, fsB, if_pos c]
      by_cases e : p = i
      · subst e
        have e2 : 8 - (p + 1) = n := by omega
        rw [e2, (code8 g4).1, Nat.mod_eq_of_lt g1, fsB_keep bt st n (p + 1) _ (by omega) ok2 un2 g3 p (by omega) (by rw [cs p h2, if_pos rfl]; exact g1), cs p h2, if_pos rfl]
      · have hsplit : ct bt n (i + 1) = ct bt (8 - (p + 1)) (p + 1) + 1 + ct bt (p - (i + 1)) (i + 1) := by
          have a1 := ct_add bt (p - (i + 1)) (8 - p) (i + 1)
          have a2 : 8 - p = (8 - (p + 1)) + 1 := by omega
          rw [show p - (i + 1) + (8 - p) = n by omega, show i + 1 + (p - (i + 1)) = p by omega, a2, ct, if_pos hbp] at a1
          omega
        have key := digits_sd n (i + 1) (un rd (lst (qF bt st n i rd) 8 0) i) (by omega) ok2 un2 g3 p (by omega) h2 hbp
        rw [← key]
        rw [hsplit] at g4 ⊢
        exact digit_hi g4
    · have hcc := hc
      rw [cnB, if_neg c] at hcc
      have e : p ≠ i := fun q => c (q ▸ hbp)
      rw [fsB, if_neg c]
      have key := digits_sd n (i + 1) rd (by omega) hok (fun q q1 q2 => hun q (by omega) q2) hcc p (by omega) h2 hbp
      rw [← key, ct, if_neg c]
      congr 2
      have : sdB bt st (n + 1) i rd = sdB bt st n (i + 1) rd := by
        funext x
        rw [sdB, if_neg c]
      rw [this]; rfl
/-- turned seatings stand alike -/
theorem cn_rot (hst : ∀ rd rd' : Nat → Nat, (∀ c, c < 8 → rd' c = rd ((c + 1) % 8)) → st rd' = st rd) : ∀ n i (rd rd' : Nat → Nat), (∀ c, c < 8 → rd' c = rd ((c + 1) % 8)) → cnB bt st n i rd' = cnB bt st n i rd
  | 0, i, rd, rd', h => by rw [cnB, cnB, hst rd rd' h]
  | n + 1, i, rd, rd', h => by
    rw [cnB, cnB]
    by_cases c : bt i = true
    · rw [if_pos c, if_pos c]
      have key : ∀ c, c < 8 → (if rd' c = 8 then cnB bt st n (i + 1) (un rd' c i) else 0) = (if rd ((c + 1) % 8) = 8 then cnB bt st n (i + 1) (un rd ((c + 1) % 8) i) else 0) := by
        intro c hc
        rw [h c hc, cn_rot hst n (i + 1) (un rd ((c + 1) % 8) i) (un rd' c i) (fun x hx => ?_)]
        by_cases e : x = c
        · rw [e, un_s, un_s]
        · rw [un_n e, un_n (by omega), h x hx]
      have k0 := key 0 (by omega); have k1 := key 1 (by omega); have k2 := key 2 (by omega); have k3 := key 3 (by omega)
      have k4 := key 4 (by omega); have k5 := key 5 (by omega); have k6 := key 6 (by omega); have k7 := key 7 (by omega)
      simp only [tS]
      simp only [Nat.reduceAdd, Nat.reduceMod] at k0 k1 k2 k3 k4 k5 k6 k7 ⊢
      rw [k0, k1, k2, k3, k4, k5, k6, k7]
      omega
    · rw [if_neg c, if_neg c]
      exact cn_rot hst n (i + 1) rd rd' h
theorem cn_skip : ∀ j, j ≤ 8 → (∀ k, k < j → bt k ≠ true) → ∀ rd, cnB bt st 8 0 rd = cnB bt st (8 - j) j rd ∧ fsB bt st 8 0 rd = fsB bt st (8 - j) j rd
  | 0, _, _, _ => ⟨rfl, rfl⟩
  | j + 1, hj, h, rd => by
    obtain ⟨h1, h2⟩ := cn_skip j (by omega) (fun k hk => h k (by omega)) rd
    have e : 8 - j = (8 - (j + 1)) + 1 := by omega
    rw [h1, h2, e, cnB, fsB, if_neg (h j (by omega)), if_neg (h j (by omega))]
    exact ⟨rfl, rfl⟩
def emp : Nat → Nat := fun _ => 8
theorem cn_top (hst : ∀ rd rd' : Nat → Nat, (∀ c, c < 8 → rd' c = rd ((c + 1) % 8)) → st rd' = st rd) {l : Nat} (hl : l < 8) (hb : bt l = true) (hno : ∀ k, k < l → bt k ≠ true) : cnB bt st 8 0 emp = 8 * cnB bt st (8 - (l + 1)) (l + 1) (un emp 0 l) ∧ (cnB bt st (8 - (l + 1)) (l + 1) (un emp 0 l) ≠ 0 → fsB bt st 8 0 emp = fsB bt st (8 - (l + 1)) (l + 1) (un emp 0 l)) := by
  obtain ⟨h1, h2⟩ := cn_skip bt st l (by omega) hno emp
  have e : 8 - l = (8 - (l + 1)) + 1 := by omega
  have rot : ∀ c, c + 1 < 8 → cnB bt st (8 - (l + 1)) (l + 1) (un emp c l) = cnB bt st (8 - (l + 1)) (l + 1) (un emp (c + 1) l) := by
    intro c hc
    refine cn_rot bt st hst _ _ _ _ (fun x hx => ?_)
    by_cases q : x = c
    · rw [q, un_s, show (c + 1) % 8 = c + 1 by omega, un_s]
    · rw [un_n q, un_n (by omega)]; rfl
  constructor
  · rw [h1, e, cnB, if_pos hb]
    have k : ∀ c, (if emp c = 8 then cnB bt st (8 - (l + 1)) (l + 1) (un emp c l) else 0) = cnB bt st (8 - (l + 1)) (l + 1) (un emp c l) := fun c => if_pos rfl
    have r0 := rot 0 (by omega); have r1 := rot 1 (by omega); have r2 := rot 2 (by omega); have r3 := rot 3 (by omega)
    have r4 := rot 4 (by omega); have r5 := rot 5 (by omega); have r6 := rot 6 (by omega)
    simp only [Nat.reduceAdd] at r0 r1 r2 r3 r4 r5 r6
    simp only [tS, k, Nat.reduceAdd]
    omega
  · intro h
    have hq : qF bt st (8 - (l + 1)) l emp 0 = true := by
      unfold qF
      rw [decide_eq_true h]; rfl
    have h0 : lst (qF bt st (8 - (l + 1)) l emp) 8 0 = 0 := by rw [lst, if_pos hq]
    rw [h2, e, fsB, if_pos hb, h0]
end
/-! standing -/
def aR (a : aW) (rd : Nat → Nat) : aW := (a_wt a, rd, fun _ => 0, a_ft a, a_dg a)
def stB (a : aW) (rd : Nat → Nat) : Bool := decide (aG (aR a rd) 8 ≤ (a_dg a : Int))
theorem aR_ok {a : aW} (ha : okA a) {rd : Nat → Nat} (h : okR rd) : okA (aR a rd) := ⟨ha.1, ha.2.1, ha.2.2.1, fun _ _ => by show 0 ≤ 99; omega, h⟩
theorem aG_le {a : aW} {d : Int} (hd : 0 ≤ d) : ∀ n, aG a n ≤ d ↔ ∀ f, f < n → -d ≤ aP a f ∧ aP a f ≤ d
  | 0 => ⟨fun _ f h => by omega, fun _ => hd⟩
  | n + 1 => by
    have ih := aG_le (a := a) hd n
    rw [aG]
    have hs : ((if aG a n < (if 0 ≤ aP a n then aP a n else -aP a n) then (if 0 ≤ aP a n then aP a n else -aP a n) else aG a n) ≤ d) ↔ (aG a n ≤ d ∧ -d ≤ aP a n ∧ aP a n ≤ d) := by
      by_cases c1 : 0 ≤ aP a n
      · rw [if_pos c1]
        by_cases c2 : aG a n < aP a n
        · rw [if_pos c2]; omega
        · rw [if_neg c2]; omega
      · rw [if_neg c1]
        by_cases c2 : aG a n < -aP a n
        · rw [if_pos c2]; omega
        · rw [if_neg c2]; omega
    rw [hs, ih]
    constructor
    · rintro ⟨h1, h2⟩ f hf
      by_cases e : f = n
      · rw [e]; exact h2
      · exact h1 f (by omega)
    · intro h
      exact ⟨fun f hf => h f (by omega), h n (by omega)⟩
theorem aP_rot {a : aW} {rd rd' : Nat → Nat} (h : ∀ c, c < 8 → rd' c = rd ((c + 1) % 8)) {f : Nat} (hf : f < 8) : aP (aR a rd') f = aP (aR a rd) ((f + 1) % 8) := by
  obtain ⟨h0, h1, h2, h3, h4, h5, h6, h7⟩ := arI_v
  have k : ∀ c, c < 8 → rwt (aR a rd') c = rwt (aR a rd) ((c + 1) % 8) := by
    intro c hc
    show (if rd' c < 8 then ((a_wt a (rd' c) : Nat) : Int) else 0) = if rd ((c + 1) % 8) < 8 then ((a_wt a (rd ((c + 1) % 8)) : Nat) : Int) else 0
    rw [h c hc]
  have k0 := k 0 (by omega); have k1 := k 1 (by omega); have k2 := k 2 (by omega); have k3 := k 3 (by omega)
  have k4 := k 4 (by omega); have k5 := k 5 (by omega); have k6 := k 6 (by omega); have k7 := k 7 (by omega)
  simp only [Nat.reduceAdd, Nat.reduceMod] at k0 k1 k2 k3 k4 k5 k6 k7
  have z : ∀ (r : Nat → Nat) c, ((a_ld (aR a r) c : Nat) : Int) = 0 := fun _ _ => rfl
  rcases (show f = 0 ∨ f = 1 ∨ f = 2 ∨ f = 3 ∨ f = 4 ∨ f = 5 ∨ f = 6 ∨ f = 7 by omega) with rfl | rfl | rfl | rfl | rfl | rfl | rfl | rfl <;> simp only [aP, aPs, z, Nat.reduceAdd, Nat.reduceSub, Nat.reduceMod, h0, h1, h2, h3, h4, h5, h6, h7, k0, k1, k2, k3, k4, k5, k6, k7] <;> omega
theorem stB_rot (a : aW) (rd rd' : Nat → Nat) (h : ∀ c, c < 8 → rd' c = rd ((c + 1) % 8)) : stB a rd' = stB a rd := by
  unfold stB
  have h0 : (0 : Int) ≤ (a_dg a : Int) := by omega
  have e : (aG (aR a rd') 8 ≤ (a_dg a : Int)) ↔ (aG (aR a rd) 8 ≤ (a_dg a : Int)) := by
    rw [aG_le h0 8, aG_le h0 8]
    constructor
    · intro q f hf
      have := q ((f + 7) % 8) (by omega)
      rw [aP_rot h (by omega), show ((f + 7) % 8 + 1) % 8 = f by omega] at this
      exact this
    · intro q f hf
      rw [aP_rot h hf]
      exact q _ (by omega)
  exact decide_eq_decide.mpr e
