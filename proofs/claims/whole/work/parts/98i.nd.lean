/-! balance: the class's search -/
def btS (S k : Nat) : Bool := decide (S / 2 ^ k % 2 = 1)
def btT (j : Nat) : Bool := decide (f_X10_isOf (nI (j / 8)) (nI (j % 8)) = some (b2 (btS (j / 8) (j % 8)), ()) ∧ f_X11_has (nI (j / 8)) (nI (j % 8)) = some (b2 (btS (j / 8) (j % 8)), ()) ∧ (nI (j / 8) >>> (nI (j % 8) &&& 31)) &&& (1 : Int32) = b2 (btS (j / 8) (j % 8)))
theorem bt_tab : (List.range 2048).all btT = true := by decide +kernel
theorem bt_at {S k : Nat} (hS : S < 256) (hk : k < 8) : f_X10_isOf (nI S) (nI k) = some (b2 (btS S k), ()) ∧ f_X11_has (nI S) (nI k) = some (b2 (btS S k), ()) ∧ (nI S >>> (nI k &&& 31)) &&& (1 : Int32) = b2 (btS S k) := by
  have h := List.all_eq_true.mp bt_tab (S * 8 + k) (List.mem_range.mpr (by omega))
  have h := of_decide_eq_true h
  rw [show (S * 8 + k) / 8 = S by omega, show (S * 8 + k) % 8 = k by omega] at h
  exact h
def bcT (S : Nat) : Bool := decide (f_J6_bitCount_0f7a4 (nI S) = some (nI (ct (btS S) 8 0), ()))
theorem bc_tab : (List.range 256).all bcT = true := by decide +kernel
theorem bc_at {S : Nat} (hS : S < 256) : f_J6_bitCount_0f7a4 (nI S) = some (nI (ct (btS S) 8 0), ()) :=
  of_decide_eq_true (List.all_eq_true.mp bc_tab S (List.mem_range.mpr hS))
theorem b2f {b : Bool} {α : Type} {A B : α} : (if (b2 b, ()).1 = 0 then A else B) = if b = true then B else A := by
  cases b with
  | false => rw [if_pos (show (b2 false, ()).1 = 0 from rfl), if_neg (by decide)]
  | true => rw [if_neg (show ¬ (b2 true, ()).1 = 0 by show ¬ b2 true = 0; decide), if_pos rfl]
theorem cr_emp (k : Nat) : cr emp k = 8 ∨ k = 8 := by
  by_cases e : k = 8
  · exact Or.inr e
  · exact Or.inl (cr_none.mpr fun j _ => fun q => e q.symm)
theorem okR_emp : okR emp := ⟨fun _ _ => Nat.le_refl 8, fun j k _ _ _ h => absurd h (show ¬ (8 : Nat) < 8 by decide)⟩
theorem w_clear {u : sW} {a : aW} (h : relW u a) : ∃ u', f_X9_clear u = some u' ∧ relW u' (aR a emp) := by
  obtain ⟨f1, e1, e2⟩ := fill_n (N := 8) (by decide) (-6) (W_cars u)
  obtain ⟨f2, e3, e4⟩ := fill_n (N := 8) (by decide) (-6) (W_riders u)
  obtain ⟨f3, e5, e6⟩ := fill_n (N := 8) (by decide) 0 (W_loads u)
  refine ⟨(W_weights u, f1, f2, f3, W_lowest u, W_friction u), ?_, h.1, fun k hk => ?_, fun k hk => e4 k hk, fun k hk => e6 k hk, h.2.2.2.2.1, h.2.2.2.2.2⟩
  · rw [f_X9_clear, e1, Option.bind_some, e3, Option.bind_some, e5, Option.bind_some]
  · show f1 k = enc (cr emp k)
    rcases cr_emp k with q | q
    · rw [e2 k hk, q]; rfl
    · omega
theorem w_least {S : Nat} (hS : S < 256) : ∀ (n i : Nat), i ≤ 8 → 8 - i < n → f_X5_leastOf_L2 n (nI S) (nI i) = some (enc (lst (btS S) (8 - i) i), ()) := by
  intro n
  induction n with
  | zero => intro i _ q; omega
  | succ n ih =>
    intro i hi hn
    rw [f_X5_leastOf_L2]
    by_cases e : i = 8
    · subst e
      rw [if_pos (show (8 : Int32) ≤ nI 8 by decide)]; rfl
    · have hlt : i < 8 := by omega
      rw [if_neg (show ¬ (8 : Int32) ≤ nI i from nI_ge hlt (by decide)), (bt_at hS hlt).1, Option.bind_some, b2f, show 8 - i = (8 - (i + 1)) + 1 by omega, lst, show nI i + (1 : Int32) = nI (i + 1) from nI_1 i]
      by_cases c : btS S i = true
      · rw [if_pos c, if_pos c, enc_lt hlt]
      · rw [if_neg c, if_neg c]
        exact ih (i + 1) (by omega) (by omega)
/-- what becomes of the first seating -/
def fnd (f0 f1 : Int32) (r0 r1 : Fn) (N : Nat) (F : Nat → Nat) : Prop := (f0 = 1 ∧ f1 = 1 ∧ ∀ q, q < 8 → r1 q = r0 q) ∨ (f0 = 0 ∧ N = 0 ∧ f1 = 0) ∨ (f0 = 0 ∧ N ≠ 0 ∧ f1 = 1 ∧ ∀ q, q < 8 → r1 q = enc (cr F q))
theorem fnd_0 {f : Int32} (h : f = 0 ∨ f = 1) (r : Fn) (F : Nat → Nat) : fnd f f r r 0 F := by
  rcases h with h | h
  · exact Or.inr (Or.inl ⟨h, rfl, h⟩)
  · exact Or.inl ⟨h, h, fun _ _ => rfl⟩
theorem fnd_01 {f0 f1 : Int32} {r0 r1 : Fn} {N : Nat} {F : Nat → Nat} (h : fnd f0 f1 r0 r1 N F) : f1 = 0 ∨ f1 = 1 := by
  rcases h with ⟨_, h, _⟩ | ⟨_, _, h⟩ | ⟨_, _, h, _⟩
  · exact Or.inr h
  · exact Or.inl h
  · exact Or.inr h
theorem fnd_c {f0 f1 f2 : Int32} {r0 r1 r2 : Fn} {N1 N2 : Nat} {F1 F2 : Nat → Nat} (h : fnd f0 f1 r0 r1 N1 F1) (g : fnd f1 f2 r1 r2 N2 F2) : fnd f0 f2 r0 r2 (N1 + N2) (if N1 ≠ 0 then F1 else F2) := by
  rcases h with ⟨h1, h2, h3⟩ | ⟨h1, h2, h3⟩ | ⟨h1, h2, h3, h4⟩
  · rcases g with ⟨g1, g2, g3⟩ | ⟨g1, g2, g3⟩ | ⟨g1, g2, g3, g4⟩
    · exact Or.inl ⟨h1, g2, fun q hq => (g3 q hq).trans (h3 q hq)⟩
    · rw [h2] at g1; exact absurd g1 (by decide)
    · rw [h2] at g1; exact absurd g1 (by decide)
  · rcases g with ⟨g1, g2, g3⟩ | ⟨g1, g2, g3⟩ | ⟨g1, g2, g3, g4⟩
    · rw [h3] at g1; exact absurd g1 (by decide)
    · exact Or.inr (Or.inl ⟨h1, by omega, g3⟩)
    · refine Or.inr (Or.inr ⟨h1, by omega, g3, ?_⟩)
      rw [if_neg (fun q => q h2)]; exact g4
  · rcases g with ⟨g1, g2, g3⟩ | ⟨g1, g2, g3⟩ | ⟨g1, g2, g3, g4⟩
    · refine Or.inr (Or.inr ⟨h1, by omega, g2, ?_⟩)
      rw [if_pos h2]
      exact fun q hq => (g3 q hq).trans (h4 q hq)
    · rw [h3] at g1; exact absurd g1 (by decide)
    · rw [h3] at g1; exact absurd g1 (by decide)
theorem st_iff {a : aW} (ha : okA a) {rd : Nat → Nat} (h : okR rd) : iI (aG (aR a rd) 8) ≤ nI (a_dg a) ↔ stB a rd = true := by
  have b := aG_bd (aR_ok ha h) 8
  have hd := ha.2.1
  unfold stB
  rw [decide_eq_true_iff, iI_nI, iI_le (by omega) (by omega) (by omega) (by omega)]
theorem w_settle {g : sG} {a : aW} (ha : okA a) {rd : Nat → Nat} (hok : okR rd) (h : relW (G_wheel g) (aR a rd)) (hf : G_found g = 0 ∨ G_found g = 1) : ∃ g', f_X5_settle g = some (nI (if stB a rd = true then 1 else 0), g') ∧ relW (G_wheel g') (aR a rd) ∧ fnd (G_found g) (G_found g') (G_firstCars g) (G_firstCars g') (if stB a rd = true then 1 else 0) rd := by
  rw [f_X5_settle, w_great h (aR_ok ha hok), Option.bind_some, f_X9_friction, Option.bind_some, show W_friction (G_wheel g) = nI (a_dg a) from h.2.2.2.2.2]
  show ∃ g', (if iI (aG (aR a rd) 8) ≤ nI (a_dg a) then _ else _) = _ ∧ _
  by_cases c : stB a rd = true
  · rw [if_pos ((st_iff ha hok).mpr c), if_pos c]
    rcases hf with q | q
    · rw [if_pos q, copy_n _ _ (by decide), Option.bind_some]
      refine ⟨_, rfl, h, Or.inr (Or.inr ⟨q, by decide, rfl, fun k hk => ?_⟩)⟩
      show va_cpy (W_cars (G_wheel g)) (G_firstCars g) 0 0 8 k = _
      rw [cpy_at hk]; exact h.2.1 k hk
    · rw [if_neg (show ¬ G_found g = 0 by rw [q]; decide)]
      exact ⟨g, rfl, h, Or.inl ⟨q, q, fun _ _ => rfl⟩⟩
  · rw [if_neg (fun q => c ((st_iff ha hok).mp q)), if_neg c]
    exact ⟨g, rfl, h, fnd_0 hf _ _⟩
section
variable {S : Nat} {a : aW}
theorem w_seek33 (ha : okA a) {R : sG → Int32 → Int32 → Option (Int32 × sG)} {n i : Nat} {rd : Nat → Nat} (hi : i < 8) (hok : okR rd) (hun : ∀ q, i ≤ q → q < 8 → cr rd q = 8)
    (hR : ∀ (rd' : Nat → Nat) (g : sG), okR rd' → (∀ q, i + 1 ≤ q → q < 8 → cr rd' q = 8) → relW (G_wheel g) (aR a rd') → (G_found g = 0 ∨ G_found g = 1) → ∃ g', R g (nI S) (nI (i + 1)) = some (nI (cnB (btS S) (stB a) n (i + 1) rd'), g') ∧ relW (G_wheel g') (aR a rd') ∧ fnd (G_found g) (G_found g') (G_firstCars g) (G_firstCars g') (cnB (btS S) (stB a) n (i + 1) rd') (fsB (btS S) (stB a) n (i + 1) rd')) :
    ∀ (N c acc : Nat) (g : sG), c ≤ 8 → 8 - c < N → relW (G_wheel g) (aR a rd) → (G_found g = 0 ∨ G_found g = 1) → ∃ g', f_X5_search_L33 R N (nI S) (nI i) (nI acc) (nI c) g = some (nI (acc + tS (fun c => if rd c = 8 then cnB (btS S) (stB a) n (i + 1) (un rd c i) else 0) (8 - c) c), g') ∧ relW (G_wheel g') (aR a rd) ∧ fnd (G_found g) (G_found g') (G_firstCars g) (G_firstCars g') (tS (fun c => if rd c = 8 then cnB (btS S) (stB a) n (i + 1) (un rd c i) else 0) (8 - c) c) (fsB (btS S) (stB a) n (i + 1) (un rd (lst (qF (btS S) (stB a) n i rd) (8 - c) c) i)) := by
  intro N
  induction N with
  | zero => intro c acc g _ h; omega
  | succ N ih =>
    intro c acc g hc hN h hf
    rw [f_X5_search_L33]
    by_cases e : c = 8
    · subst e
      rw [if_pos (show (8 : Int32) ≤ nI 8 by decide)]
      exact ⟨g, rfl, h, fnd_0 hf _ _⟩
    · have hlt : c < 8 := by omega
      have hle := hok.1 c hlt
      rw [if_neg (show ¬ (8 : Int32) ≤ nI c from nI_ge hlt (by decide)), w_riderOf h hlt, Option.bind_some, show 8 - c = (8 - (c + 1)) + 1 by omega, tS, lst, show nI c + (1 : Int32) = nI (c + 1) from nI_1 c]
      show ∃ g', (if enc (rd c) = -6 then _ else _) = _ ∧ _
      by_cases q : rd c = 8
      · have hi8 := hun i (Nat.le_refl i) hi
        have hA := aR_ok ha hok
        have cs := fun q' (hq : q' < 8) => cr_seat hok hlt hi (Or.inl hi8) (Or.inl q) (q := q') hq
        have hok2 := okR_seat hok (c := c) hi (Or.inl hi8)
        obtain ⟨w1, e1, e2⟩ := w_seat h hA hi hlt (Or.inl hi8) (Or.inl q)
        obtain ⟨g1, e3, e4, e5⟩ := hR (un rd c i) (w1, G_firstCars g, G_found g) hok2 (fun q' q1 q2 => by rw [cs q' q2, if_neg (by omega)]; exact hun q' (by omega) q2) e2 hf
        obtain ⟨w2, e6, e7⟩ := w_unseat e4 (aR_ok ha hok2) hlt
        have e8 : relW w2 (aR a rd) := by
          have : a_seat (aR a (un rd c i)) c 8 = aR a rd := by
            show (a_wt a, un (un rd c i) c 8, (fun _ => 0), a_ft a, a_dg a) = (a_wt a, rd, (fun _ => 0), a_ft a, a_dg a)
            rw [un_un, ← q, un_id]
          rw [← this]; exact e7
        obtain ⟨g2, k1, k2, k3⟩ := ih (c + 1) (acc + cnB (btS S) (stB a) n (i + 1) (un rd c i)) (w2, G_firstCars g1, G_found g1) (by omega) (by omega) e8 (fnd_01 e5)
        have hq : (qF (btS S) (stB a) n i rd c = true) ↔ cnB (btS S) (stB a) n (i + 1) (un rd c i) ≠ 0 := by
          unfold qF
          rw [decide_eq_true q, Bool.true_and, decide_eq_true_iff]
        have hn1 : nI i + (1 : Int32) = nI (i + 1) := nI_1 i
        refine ⟨g2, ?_, k2, ?_⟩
        · rw [if_pos ((enc_no hle).mpr q), e1, Option.bind_some, hn1, e3, Option.bind_some]
          show (f_X9_unseat (G_wheel g1) (nI c)).bind (fun z9 => f_X5_search_L33 R N (nI S) (nI i) (nI acc + nI (cnB (btS S) (stB a) n (i + 1) (un rd c i))) (nI (c + 1)) (z9, G_firstCars g1, G_found g1)) = _
          rw [e6, Option.bind_some, nI_add, k1, if_pos q, Nat.add_assoc]
        · have := fnd_c e5 k3
          rw [if_pos q]
          by_cases z : cnB (btS S) (stB a) n (i + 1) (un rd c i) ≠ 0
          · rw [if_pos z] at this
            rw [if_pos (hq.mpr z)]
            exact this
          · rw [if_neg z] at this
            rw [if_neg (fun y => z (hq.mp y))]
            exact this
      · have hq : ¬ qF (btS S) (stB a) n i rd c = true := by
          unfold qF
          rw [decide_eq_false q, Bool.false_and]; decide
        rw [if_neg (fun z => q ((enc_no hle).mp z)), if_neg q, if_neg hq, Nat.zero_add]
        exact ih (c + 1) acc g (by omega) (by omega) h hf
theorem w_seek (ha : okA a) (hS : S < 256) : ∀ (D n i : Nat) (rd : Nat → Nat) (g : sG), n < D → i + n = 8 → okR rd → (∀ q, i ≤ q → q < 8 → cr rd q = 8) → relW (G_wheel g) (aR a rd) → (G_found g = 0 ∨ G_found g = 1) → ∃ g', f_X5_search D g (nI S) (nI i) = some (nI (cnB (btS S) (stB a) n i rd), g') ∧ relW (G_wheel g') (aR a rd) ∧ fnd (G_found g) (G_found g') (G_firstCars g) (G_firstCars g') (cnB (btS S) (stB a) n i rd) (fsB (btS S) (stB a) n i rd) := by
  have ho := oF_ge
  intro D
  induction D with
  | zero => intro n i rd g h; omega
  | succ D ih =>
    intro n i rd g hnD hin hok hun h hf
    rw [f_X5_search]
    cases n with
    | zero =>
      have : i = 8 := by omega
      subst this
      obtain ⟨g', e1, e2, e3⟩ := w_settle ha hok h hf
      rw [if_neg (show ¬ nI 8 < (8 : Int32) by decide), e1, Option.bind_some, cnB, fsB]
      exact ⟨g', rfl, e2, e3⟩
    | succ n =>
      have hi : i < 8 := by omega
      rw [if_pos (show nI i < (8 : Int32) from nI_lt (b := 8) hi (by decide)), (bt_at hS hi).1, Option.bind_some, b2f, cnB, fsB]
      by_cases c : btS S i = true
      · rw [if_pos c, if_pos c, if_pos c]
        have := w_seek33 ha (R := f_X5_search D) hi hok hun (fun rd' g' k1 k2 k3 k4 => ih n (i + 1) rd' g' (by omega) (by omega) k1 k2 k3 k4) oF 0 0 g (by omega) (by omega) h hf
        rw [Nat.zero_add] at this
        exact this
      · rw [if_neg c, if_neg c, if_neg c, show nI i + (1 : Int32) = nI (i + 1) from nI_1 i]
        obtain ⟨g', e1, e2, e3⟩ := ih n (i + 1) rd g (by omega) (by omega) hok (fun q q1 q2 => hun q (by omega) q2) h hf
        rw [e1, Option.bind_some]
        exact ⟨g', rfl, e2, e3⟩
/-- all ways, and the first -/
theorem w_count (ha : okA a) (hS : S < 256) {w : sW} (hw : relW w a) (g : sG) : ∃ g', f_X5_count g w (nI S) = some (nI (cnB (btS S) (stB a) 8 0 emp), g') ∧ (cnB (btS S) (stB a) 8 0 emp ≠ 0 → ∀ q, q < 8 → G_firstCars g' q = enc (cr (fsB (btS S) (stB a) 8 0 emp) q)) := by
  have ho := oF_ge
  obtain ⟨w1, e1, e2⟩ := w_copyFrom hw (G_wheel g)
  obtain ⟨w2, e3, e4⟩ := w_clear e2
  have e5 := w_least hS oF 0 (by omega) (by omega)
  have e5 : f_X5_leastOf (nI S) = some (enc (lst (btS S) 8 0), ()) := e5
  have hno := lst_no (btS S) 8 0
  have hge := lst_ge (btS S) 8 0
  rw [f_X5_count, e1, Option.bind_some, e3, Option.bind_some, e5, Option.bind_some]
  show ∃ g', (if enc (lst (btS S) 8 0) = -6 then _ else _) = _ ∧ _
  by_cases c : lst (btS S) 8 0 = 8
  · obtain ⟨h1, h2⟩ := cn_skip (btS S) (stB a) 8 (by omega) (fun k hk => hno k (by omega) (by omega)) emp
    obtain ⟨g', e6, e7, e8⟩ := w_settle (g := (w2, G_firstCars g, (0 : Int32))) ha okR_emp e4 (Or.inl rfl)
    rw [if_pos ((enc_no hge.2).mpr c), e6, Option.bind_some, h1, h2]
    refine ⟨g', rfl, fun hne q hq => ?_⟩
    rcases e8 with ⟨k1, -⟩ | ⟨-, k1, -⟩ | ⟨-, -, -, k1⟩
    · exact absurd (show (0 : Int32) = 1 from k1) (by decide)
    · exact absurd k1 hne
    · exact k1 q hq
  · have hl : lst (btS S) 8 0 < 8 := by omega
    have hb := lst_yes (btS S) 8 0 (by omega)
    obtain ⟨h1, h2⟩ := cn_top (btS S) (stB a) (stB_rot a) hl hb (fun k hk => hno k (by omega) hk)
    rw [if_neg (fun z => c ((enc_no hge.2).mp z))]
    generalize lst (btS S) 8 0 = l at *
    have hc8 : cr emp l = 8 := (cr_emp l).resolve_right c
    obtain ⟨w3, e6, e7⟩ := w_seat e4 (aR_ok ha okR_emp) hl (show 0 < 8 by decide) (Or.inl hc8) (Or.inl rfl)
    have cs := fun q' (hq : q' < 8) => cr_seat okR_emp (show 0 < 8 by decide) hl (Or.inl hc8) (Or.inl rfl) (q := q') hq
    obtain ⟨g', e8, e9, e10⟩ := w_seek ha hS 10 (8 - (l + 1)) (l + 1) (un emp 0 l) (w3, G_firstCars g, (0 : Int32)) (by omega) (by omega) (okR_seat okR_emp hl (Or.inl hc8)) (fun q q1 q2 => by rw [cs q q2, if_neg (by omega)]; exact (cr_emp q).resolve_right (by omega)) e7 (Or.inl rfl)
    rw [enc_lt hl]
    show ∃ g', (f_X9_seat w2 (nI l) (nI 0)).bind (fun z5 => (f_X5_search 10 (z5, G_firstCars g, (0 : Int32)) (nI S) (nI l + (1 : Int32))).bind fun z6 => some ((8 : Int32) * z6.1, z6.2)) = _ ∧ _
    rw [e6, Option.bind_some, show nI l + (1 : Int32) = nI (l + 1) from nI_1 l, e8, Option.bind_some, h1]
    refine ⟨g', ?_, fun hne q hq => ?_⟩
    · show some ((8 : Int32) * nI _, g') = _
      rw [show (8 : Int32) = nI 8 from rfl, pk_mul]
    · rw [h2 (by omega)]
      rcases e10 with ⟨k1, -⟩ | ⟨-, k1, -⟩ | ⟨-, -, -, k1⟩
      · exact absurd (show (0 : Int32) = 1 from k1) (by decide)
      · omega
      · exact k1 q hq
end
